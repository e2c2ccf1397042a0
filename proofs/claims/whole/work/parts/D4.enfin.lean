/-! the reference: what enter leaves is the model's tree -/
/-- the entry's place on each level of the way, counted as enter does -/
def plE (S : mS) (k y : Nat) : Nat := if y = 0 ∧ k = 0 then 0 else mQ S (k - 1) y - sm (mc S y) (mQ S (k - 1) (y + 1)) + 1
section
variable {f : Nat → Nat} {p hf m pl Q : Nat}
theorem cEq (hm : f p = m) (hh : hf ≤ m) (hQ : Q = if pl ≤ hf then p else p + 1) (x : Nat) : incN (splN f p hf) Q x = insN (gF f p (hf + if pl ≤ hf then 1 else 0)) (p + 1) (m - hf + if pl ≤ hf then 0 else 1) x := by
  by_cases e : pl ≤ hf
  · rw [if_pos e] at hQ ⊢
    rw [if_pos e, hQ]
    rcases Nat.lt_trichotomy x (p + 1) with h | h | h
    · rw [insN_lo h]
      by_cases e2 : x = p
      · rw [e2, inc_at, spl_at, gF_s]
      · rw [inc_n e2, spl_lo (by omega), gF_n e2]
    · rw [h, insN_at, inc_n (by omega), spl_nx, hm]
      omega
    · obtain ⟨y, rfl⟩ : ∃ y, x = y + 1 := ⟨x - 1, by omega⟩
      rw [insN_hi (by omega), inc_n (by omega), spl_hi (by omega), gF_n (by omega)]
  · rw [if_neg e] at hQ ⊢
    rw [if_neg e, hQ]
    rcases Nat.lt_trichotomy x (p + 1) with h | h | h
    · rw [insN_lo h]
      by_cases e2 : x = p
      · rw [e2, inc_n (by omega), spl_at, gF_s]
        omega
      · rw [inc_n (by omega), spl_lo (by omega), gF_n e2]
    · rw [h, insN_at, inc_at, spl_nx, hm]
    · obtain ⟨y, rfl⟩ : ∃ y, x = y + 1 := ⟨x - 1, by omega⟩
      rw [insN_hi (by omega), inc_n (by omega), spl_hi (by omega), gF_n (by omega)]
end
section
variable {SS : Nat → mS} {S' : mS} {t m k tt : Nat} {nb : Nat → Nat} {x n v w : Int}
theorem plE_Q (hs : mSh (SS t) t m) (hi : k - 1 < mn (SS t)) {y : Nat} (hy : y ≤ md (SS t)) (hm : 5 ≤ m) : cQ (SS t) (k - 1) ((m + 1) / 2) y = if plE (SS t) k y ≤ (m + 1) / 2 then mQ (SS t) (k - 1) (y + 1) else mQ (SS t) (k - 1) (y + 1) + 1 := by
  obtain ⟨a1, a2, a3⟩ := mQ_in hs hi hy
  unfold cQ plE
  by_cases e : y = 0 ∧ k = 0
  · rw [if_pos e, if_pos (Nat.zero_le _), if_neg ?_]
    obtain ⟨rfl, rfl⟩ := e
    have : mQ (SS t) (0 - 1) 0 = 0 := rfl
    omega
  · rw [if_neg e]
    by_cases e2 : sm (mc (SS t) y) (mQ (SS t) (k - 1) (y + 1)) + (m + 1) / 2 ≤ mQ (SS t) (k - 1) y
    · rw [if_pos e2, if_neg (by omega)]
    · rw [if_neg e2, if_pos (by omega)]
theorem en_fin1 (hs : mSh (SS t) t m) (hi : k - 1 < mn (SS t) ∨ tt = 0) (hm : 5 ≤ m) (htt : tt ≤ md (SS t)) (hfull : ∀ y, y < tt → mc (SS t) y (mQ (SS t) (k - 1) (y + 1)) = if y = md (SS t) then 4 else m) (hS : S' = enS (SS t) t m (k - 1) nb tt k x n v w) {C0 : Nat → Nat → Nat → Nat} (hC1 : ∀ g l, ¬ (g = t ∧ l = tt) → C0 g l = CS SS g l) (hC2 : tt < md (SS t) → C0 t tt = incN (mc (SS t) tt) (mQ (SS t) (k - 1) (tt + 1))) :
    md S' = md (SS t) ∧ mc S' (md S') 0 = (if tt = md (SS t) then mc (SS t) (md (SS t)) 0 + 1 else mc (SS t) (md (SS t)) 0) ∧ (∀ g l, KS (gF SS t S') g l = eK (KS SS) t tt 0 g l) ∧ ∀ g l p, p < eK (KS SS) t tt 0 g l → BS (gF SS t S') g l p = eB (BS SS) t tt 0 (fun l => mQ (SS t) (k - 1) (l + 1)) nb g l p ∧ CS (gF SS t S') g l p = eC C0 t tt 0 (fun l => mQ (SS t) (k - 1) (l + 1)) (fun l => (m + 1) / 2 + if plE (SS t) k l ≤ (m + 1) / 2 then 1 else 0) (fun l => m - (m + 1) / 2 + if plE (SS t) k l ≤ (m + 1) / 2 then 0 else 1) g l p := by
  obtain ⟨y1, y2, y3, -⟩ := enS_eq (S := SS t) (t := t) (m := m) (i := k - 1) (nb := nb) (tt := tt) (j := k) (x := x) (n := n) (v := v) (w := w) hs hi hm (by omega) hfull
  rw [← hS] at y1 y2 y3
  obtain ⟨z1, z2, z3, z4⟩ := y2 htt
  have kS' : ∀ l, KS (gF SS t S') t l = if l < md (SS t) then mK S' l else 0 := by
    intro l
    unfold KS
    rw [gF_s, z1]
  have kk : ∀ g l, KS (gF SS t S') g l = eK (KS SS) t tt 0 g l := by
    intro g l
    unfold eK
    by_cases eg : g = t
    · subst eg
      rw [kS']
      by_cases el : l < md (SS g)
      · have k0 : KS SS g l = mK (SS g) l := if_pos el
        rw [if_pos el, k0]
        by_cases e3 : l < tt
        · rw [if_pos ⟨rfl, Nat.zero_le _, e3⟩]
          exact (y1 l e3 el).1
        · rw [if_neg (fun z => e3 z.2.2)]
          by_cases e4 : l = tt
          · rw [e4]
            exact z2
          · exact (y3 l (by omega) (by omega)).1
      · have k0 : KS SS g l = 0 := if_neg el
        rw [if_neg el, k0, if_neg (by omega)]
    · rw [if_neg (fun z => eg z.1)]
      unfold KS
      rw [gF_n eg]
  refine ⟨z1, ?_, kk, fun g l p hp => ?_⟩
  · rw [z1]
    by_cases e : tt = md (SS t)
    · rw [if_pos e, ← e, z4]
      have q0 : mQ (SS t) (k - 1) (tt + 1) = 0 := by
        rw [e]
        by_cases h9 : k - 1 < mn (SS t)
        · exact mQ_top hs h9
        · have h0 : tt = 0 := by omega
          rw [← e, h0]
          show lc (mc (SS t) 0) _ (mK (SS t) 0) = 0
          have := hs.2.1
          rw [← e, h0] at this
          rw [this]
          show (if sm (mc (SS t) 0) 0 ≤ _ then 0 else 0) = 0
          split <;> rfl
      rw [q0, inc_at]
    · rw [if_neg e, (y3 (md (SS t)) (by omega) (Nat.le_refl _)).2.2]
  · by_cases eg : g = t
    · subst eg
      rw [← kk, kS'] at hp
      by_cases el : l < md (SS g)
      · have b0 : BS (gF SS g S') g l = mb S' l := by
          unfold BS
          rw [gF_s]
        have c0 : CS (gF SS g S') g l = mc S' l := by
          unfold CS
          rw [gF_s]
        rw [b0, c0]
        unfold eB eC
        by_cases e3 : l < tt
        · rw [if_pos ⟨rfl, Nat.zero_le _, e3⟩, if_pos ⟨rfl, Nat.zero_le _, e3⟩, hC1 g l (by omega)]
          obtain ⟨u1, u2, u3⟩ := y1 l e3 el
          rw [u2, u3]
          refine ⟨rfl, ?_⟩
          have hi' : k - 1 < mn (SS g) := by omega
          exact cEq (by rw [hfull l e3, if_neg (by omega)]) (by omega) (plE_Q hs hi' (by omega) hm) p
        · rw [if_neg (fun z => e3 z.2.2), if_neg (fun z => e3 z.2.2)]
          by_cases e4 : l = tt
          · subst e4
            rw [z3, z4, hC2 el]
            exact ⟨rfl, rfl⟩
          · obtain ⟨u1, u2, u3⟩ := y3 l (by omega) (by omega)
            rw [u2, u3, hC1 g l (by omega)]
            exact ⟨rfl, rfl⟩
      · rw [if_neg el] at hp
        exact absurd hp (Nat.not_lt_zero _)
    · have b0 : BS (gF SS t S') g = BS SS g := by
        unfold BS
        rw [gF_n eg]
      have c0 : CS (gF SS t S') g = CS SS g := by
        unfold CS
        rw [gF_n eg]
      unfold eB eC
      rw [b0, c0, if_neg (fun z => eg z.1), if_neg (fun z => eg z.1), hC1 g l (fun z => eg z.1)]
      exact ⟨rfl, rfl⟩
theorem en_fin2 (hs : mSh (SS t) t m) (hi : k - 1 < mn (SS t)) (hm : 5 ≤ m) (htt : tt = md (SS t) + 1) (hfull : ∀ y, y < tt → mc (SS t) y (mQ (SS t) (k - 1) (y + 1)) = if y = md (SS t) then 4 else m) (hS : S' = enS (SS t) t m (k - 1) nb tt k x n v w) :
    md S' = md (SS t) + 1 ∧ mc S' (md S') 0 = 1 ∧ (∀ g l, KS (gF SS t S') g l = eK (uF2 (KS SS) t (md (SS t)) (KS SS t (md (SS t)) + 1)) t (md (SS t)) 0 g l) ∧ ∀ g l p, p < eK (uF2 (KS SS) t (md (SS t)) (KS SS t (md (SS t)) + 1)) t (md (SS t)) 0 g l → BS (gF SS t S') g l p = eB (uF2 (BS SS) t (md (SS t)) (insN (BS SS t (md (SS t))) 0 (nb (md (SS t))))) t (md (SS t)) 0 (fun l => mQ (SS t) (k - 1) (l + 1)) nb g l p ∧ CS (gF SS t S') g l p = eC (uF2 (CS SS) t (md (SS t)) (insN (CS SS t (md (SS t))) 0 5)) t (md (SS t)) 0 (fun l => mQ (SS t) (k - 1) (l + 1)) (fun l => (m + 1) / 2 + if plE (SS t) k l ≤ (m + 1) / 2 then 1 else 0) (fun l => m - (m + 1) / 2 + if plE (SS t) k l ≤ (m + 1) / 2 then 0 else 1) g l p := by
  obtain ⟨y1, -, -, y4⟩ := enS_eq (S := SS t) (t := t) (m := m) (i := k - 1) (nb := nb) (tt := tt) (j := k) (x := x) (n := n) (v := v) (w := w) hs (Or.inl hi) hm (by omega) hfull
  rw [← hS] at y1 y4
  obtain ⟨z1, z2, z3, z4, z5, z6⟩ := y4 htt
  have f0 : mc (SS t) (md (SS t)) 0 = 4 := by
    have := hfull (md (SS t)) (by omega)
    rw [mQ_top hs hi, if_pos rfl] at this
    exact this
  have kS' : ∀ l, KS (gF SS t S') t l = if l < md (SS t) + 1 then mK S' l else 0 := by
    intro l
    unfold KS
    rw [gF_s, z1]
  have kd : KS SS t (md (SS t)) = 0 := if_neg (by omega)
  have kk : ∀ g l, KS (gF SS t S') g l = eK (uF2 (KS SS) t (md (SS t)) (KS SS t (md (SS t)) + 1)) t (md (SS t)) 0 g l := by
    intro g l
    unfold eK
    by_cases eg : g = t
    · subst eg
      rw [kS']
      by_cases el : l < md (SS g)
      · have k0 : KS SS g l = mK (SS g) l := if_pos el
        rw [if_pos (show l < md (SS g) + 1 by omega), if_pos ⟨rfl, Nat.zero_le _, el⟩, uF2_l (by omega), k0]
        exact (y1 l (by omega) el).1
      · rw [if_neg (show ¬ (g = g ∧ 0 ≤ l ∧ l < md (SS g)) from fun z => el z.2.2)]
        by_cases e4 : l = md (SS g)
        · rw [e4, if_pos (show md (SS g) < md (SS g) + 1 by omega), uF2_s, z2, hs.2.1, kd]
        · have k0 : KS SS g l = 0 := if_neg el
          rw [if_neg (show ¬ l < md (SS g) + 1 by omega), uF2_l e4, k0]
    · rw [if_neg (fun z => eg z.1), uF2_g eg]
      unfold KS
      rw [gF_n eg]
  refine ⟨z1, by rw [z1, z5], kk, fun g l p hp => ?_⟩
  by_cases eg : g = t
  · subst eg
    rw [← kk, kS'] at hp
    have b0 : BS (gF SS g S') g l = mb S' l := by
      unfold BS
      rw [gF_s]
    have c0 : CS (gF SS g S') g l = mc S' l := by
      unfold CS
      rw [gF_s]
    rw [b0, c0]
    unfold eB eC
    by_cases el : l < md (SS g)
    · rw [if_pos ⟨rfl, Nat.zero_le _, el⟩, if_pos ⟨rfl, Nat.zero_le _, el⟩, uF2_l (by omega), uF2_l (by omega)]
      obtain ⟨u1, u2, u3⟩ := y1 l (by omega) el
      rw [u2, u3]
      refine ⟨rfl, ?_⟩
      exact cEq (by
        have := hfull l (by omega)
        rw [if_neg (by omega)] at this
        exact this) (by omega) (plE_Q hs hi (by omega) hm) p
    · rw [if_neg (fun z => el z.2.2), if_neg (fun z => el z.2.2)]
      by_cases e4 : l = md (SS g)
      · subst e4
        rw [if_pos (by omega), z2, hs.2.1] at hp
        have hp : p = 0 := by omega
        subst hp
        rw [uF2_s, uF2_s, z3, z4, insN_at, insN_at, inc_at, f0]
        exact ⟨rfl, rfl⟩
      · rw [if_neg (by omega)] at hp
        exact absurd hp (Nat.not_lt_zero _)
  · have b0 : BS (gF SS t S') g = BS SS g := by
      unfold BS
      rw [gF_n eg]
    have c0 : CS (gF SS t S') g = CS SS g := by
      unfold CS
      rw [gF_n eg]
    unfold eB eC
    rw [b0, c0, if_neg (fun z => eg z.1), if_neg (fun z => eg z.1), uF2_g eg, uF2_g eg]
    exact ⟨rfl, rfl⟩
end
