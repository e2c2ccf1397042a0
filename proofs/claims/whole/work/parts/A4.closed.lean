/-! all the splits of an insertion, at once -/
section
variable {f : Nat → Nat} {q p K h P : Nat}
theorem lc_spl (hp : p < K) (h1 : sm f p ≤ q) (h2 : q < sm f p + f p) (hh : h < f p) : lc (splN f p h) q (K + 1) = if sm f p + h ≤ q then p + 1 else p := by
  have hK : sm (splN f p h) (K + 1) = sm f K := sm_spl_hi (by omega) K hp
  have hm : sm f (p + 1) ≤ sm f K := sm_mono (by omega)
  have hm2 : sm f (p + 1) = sm f p + f p := rfl
  obtain ⟨a1, a2, a3⟩ := lc_spec (f := splN f p h) (q := q) (K + 1) (by omega)
  by_cases e : sm f p + h ≤ q
  · rw [if_pos e]
    exact lc_uniq (f := splN f p h) (K := K + 1) (q := q) a2 a3 (by rw [sm_spl_at]; exact e) (by rw [sm_spl_at, spl_nx]; omega)
  · rw [if_neg e]
    exact lc_uniq (f := splN f p h) (K := K + 1) (q := q) a2 a3 (by rw [sm_spl_lo (Nat.le_refl _)]; exact h1) (by rw [sm_spl_lo (Nat.le_refl _), spl_at]; omega)
theorem lc_inc (hP : P < K) (h1 : sm f P ≤ q) (h2 : q < sm f P + f P + 1) : lc (incN f P) q K = P := by
  have hK : sm (incN f P) K = sm f K + 1 := sm_inc_hi K hP
  have hm : sm f (P + 1) ≤ sm f K := sm_mono (by omega)
  have hm2 : sm f (P + 1) = sm f P + f P := rfl
  obtain ⟨a1, a2, a3⟩ := lc_spec (f := incN f P) (q := q) K (by omega)
  exact lc_uniq (f := incN f P) (K := K) (q := q) a2 a3 (by rw [sm_inc_lo (Nat.le_refl _)]; exact h1) (by rw [sm_inc_lo (Nat.le_refl _), inc_at]; omega)
end
/-- where the way goes on a level that was split -/
def cQ (S : mS) (i h y : Nat) : Nat := if sm (mc S y) (mQ S i (y + 1)) + h ≤ mQ S i y then mQ S i (y + 1) + 1 else mQ S i (y + 1)
section
variable {S : mS} {i h top : Nat} {nb : Nat → Nat}
theorem spM_eq (hw : ∀ y, y ≤ top → mQ S i (y + 1) < mK S y ∧ sm (mc S y) (mQ S i (y + 1)) ≤ mQ S i y ∧ mQ S i y < sm (mc S y) (mQ S i (y + 1)) + mc S y (mQ S i (y + 1))) (hh : ∀ y, y < top → h < mc S y (mQ S i (y + 1))) : ∀ n, n ≤ top →
    (∀ y, y < top - n → mc (spM S i h nb top n) y = mc S y ∧ mK (spM S i h nb top n) y = mK S y ∧ mb (spM S i h nb top n) y = mb S y) ∧
    (mc (spM S i h nb top n) top = (if n = 0 then mc S top else incN (mc S top) (mQ S i (top + 1))) ∧ mK (spM S i h nb top n) top = mK S top ∧ mb (spM S i h nb top n) top = mb S top) ∧
    (∀ y, top - n ≤ y → y < top → mK (spM S i h nb top n) y = mK S y + 1 ∧ mb (spM S i h nb top n) y = insN (mb S y) (mQ S i (y + 1) + 1) (nb y) ∧ mc (spM S i h nb top n) y = if y = top - n then splN (mc S y) (mQ S i (y + 1)) h else incN (splN (mc S y) (mQ S i (y + 1)) h) (cQ S i h y)) ∧
    (∀ y, top < y → mc (spM S i h nb top n) y = mc S y ∧ mK (spM S i h nb top n) y = mK S y ∧ mb (spM S i h nb top n) y = mb S y) ∧
    (∀ y, y ≤ top - n → mQ (spM S i h nb top n) i y = mQ S i y) ∧ (∀ y, top - n ≤ y → y < top → mQ (spM S i h nb top n) i (y + 1) = cQ S i h y) ∧ mQ (spM S i h nb top n) i (top + 1) = mQ S i (top + 1) := by
  intro n
  induction n with
  | zero =>
    intro _
    exact ⟨fun y _ => ⟨rfl, rfl, rfl⟩, ⟨by rw [if_pos rfl]; rfl, rfl, rfl⟩, fun y h1 h2 => absurd h2 (by omega), fun y _ => ⟨rfl, rfl, rfl⟩, fun y _ => rfl, fun y h1 h2 => absurd h2 (by omega), rfl⟩
  | succ n ih =>
    intro hn
    obtain ⟨a1, ⟨b1, b2, b3⟩, c1, d1, e1, e2, e3⟩ := ih (by omega)
    obtain ⟨l, hl⟩ : ∃ l, top - 1 - n = l := ⟨_, rfl⟩
    have hl1 : top - n = l + 1 := by omega
    have hl2 : top - (n + 1) = l := by omega
    rw [hl1] at a1 c1 e1 e2
    rw [hl2]
    generalize hB : spM S i h nb top n = B at a1 b1 b2 b3 c1 d1 e1 e2 e3
    obtain ⟨P, hP⟩ : ∃ P, mQ B i (l + 2) = P := ⟨_, rfl⟩
    have eM : spM S i h nb top (n + 1) = sSp B l (mQ S i (l + 1)) P h (nb l) := by
      have : spM S i h nb top (n + 1) = sSp B l (mQ B i (l + 1)) (mQ B i (l + 2)) h (nb l) := by
        rw [← hl, ← hB]
        rfl
      rw [this, e1 (l + 1) (Nat.le_refl _), hP]
    obtain ⟨w1, w2, w3⟩ := hw l (by omega)
    have hcl : mc B l = mc S l := (a1 l (by omega)).1
    have hkl : mK B l = mK S l := (a1 l (by omega)).2.1
    -- the node above
    have up : P < mK B (l + 1) ∧ sm (mc B (l + 1)) P ≤ mQ S i (l + 1) ∧ mQ S i (l + 1) < sm (mc B (l + 1)) P + mc B (l + 1) P := by
      obtain ⟨v1, v2, v3⟩ := hw (l + 1) (by omega)
      have tot : mQ S i (l + 1) < sm (mc B (l + 1)) (mK B (l + 1)) := by
        have hm : sm (mc S (l + 1)) (mQ S i (l + 1 + 1) + 1) ≤ sm (mc S (l + 1)) (mK S (l + 1)) := sm_mono (by omega)
        have hm2 : sm (mc S (l + 1)) (mQ S i (l + 1 + 1) + 1) = sm (mc S (l + 1)) (mQ S i (l + 1 + 1)) + mc S (l + 1) (mQ S i (l + 1 + 1)) := rfl
        by_cases h9 : n = 0
        · have h8 : l + 1 = top := by omega
          rw [if_pos h9] at b1
          rw [h8] at hm hm2 v3 ⊢
          rw [b1, b2]
          omega
        · obtain ⟨k1, k2, k3⟩ := c1 (l + 1) (Nat.le_refl _) (by omega)
          rw [if_pos rfl] at k3
          have h7 := hh (l + 1) (by omega)
          rw [k1, k3, sm_spl_hi (by omega) _ v1]
          omega
      have := lc_spec (f := mc B (l + 1)) (q := mQ S i (l + 1)) (mK B (l + 1)) tot
      have e : lc (mc B (l + 1)) (mQ S i (l + 1)) (mK B (l + 1)) = P := by
        rw [← hP]
        show _ = lc (mc B (l + 1)) (mQ B i (l + 1)) (mK B (l + 1))
        rw [e1 (l + 1) (Nat.le_refl _)]
      rw [e] at this
      exact this
    have qlo : ∀ y, y ≤ l → mQ (sSp B l (mQ S i (l + 1)) P h (nb l)) i y = mQ S i y := fun y hy => mQ_congr y (fun k hk => ⟨by rw [ssp_co (by omega) (by omega), (a1 k (by omega)).1], by rw [ssp_ko (by omega), (a1 k (by omega)).2.1]⟩)
    have ql : mQ (sSp B l (mQ S i (l + 1)) P h (nb l)) i (l + 1) = cQ S i h l := by
      show lc (mc (sSp B l (mQ S i (l + 1)) P h (nb l)) l) (mQ (sSp B l (mQ S i (l + 1)) P h (nb l)) i l) (mK (sSp B l (mQ S i (l + 1)) P h (nb l)) l) = _
      rw [qlo l (Nat.le_refl _), ssp_cl, ssp_kl, hcl, hkl, lc_spl w1 w2 w3 (hh l (by omega))]
      rfl
    have qu : mQ (sSp B l (mQ S i (l + 1)) P h (nb l)) i (l + 2) = P := by
      show lc (mc (sSp B l (mQ S i (l + 1)) P h (nb l)) (l + 1)) (mQ (sSp B l (mQ S i (l + 1)) P h (nb l)) i (l + 1)) (mK (sSp B l (mQ S i (l + 1)) P h (nb l)) (l + 1)) = _
      rw [ql, ssp_cu, ssp_ko (by omega)]
      have hq : mQ S i (l + 1) ≤ cQ S i h l ∧ cQ S i h l ≤ mQ S i (l + 1) + 1 := by
        unfold cQ
        split <;> omega
      exact lc_inc up.1 (by omega) (by omega)
    have qhi : ∀ y, mQ (sSp B l (mQ S i (l + 1)) P h (nb l)) i (l + 2 + y) = mQ B i (l + 2 + y) := by
      intro y
      induction y with
      | zero => exact qu.trans hP.symm
      | succ y ihy =>
        show lc (mc (sSp B l (mQ S i (l + 1)) P h (nb l)) (l + 2 + y)) (mQ (sSp B l (mQ S i (l + 1)) P h (nb l)) i (l + 2 + y)) (mK (sSp B l (mQ S i (l + 1)) P h (nb l)) (l + 2 + y)) = lc (mc B (l + 2 + y)) (mQ B i (l + 2 + y)) (mK B (l + 2 + y))
        rw [ihy, ssp_co (by omega) (by omega), ssp_ko (by omega)]
    rw [eM]
    refine ⟨fun y hy => ?_, ⟨?_, ?_, ?_⟩, fun y h1 h2 => ?_, fun y hy => ?_, fun y hy => qlo y hy, fun y h1 h2 => ?_, ?_⟩
    · rw [ssp_co (by omega) (by omega), ssp_ko (by omega), ssp_bo (by omega)]
      exact a1 y (by omega)
    · rw [if_neg (by omega)]
      by_cases h9 : n = 0
      · have h8 : top = l + 1 := by omega
        rw [if_pos h9] at b1
        have hPt : P = mQ S i (top + 1) := by
          rw [← hP, ← e3, h8]
        rw [h8, ssp_cu, ← h8, b1, hPt]
      · rw [if_neg h9] at b1
        rw [ssp_co (by omega) (by omega), b1]
    · rw [ssp_ko (by omega), b2]
    · rw [ssp_bo (by omega), b3]
    · by_cases h9 : y = l
      · subst h9
        rw [ssp_kl, ssp_bl, ssp_cl, if_pos rfl, hcl, hkl, (a1 y (by omega)).2.2]
        exact ⟨rfl, rfl, rfl⟩
      · rw [ssp_ko h9, ssp_bo h9, if_neg h9]
        obtain ⟨k1, k2, k3⟩ := c1 y (by omega) h2
        refine ⟨k1, k2, ?_⟩
        by_cases h8 : y = l + 1
        · subst h8
          rw [if_pos rfl] at k3
          have hPt : P = cQ S i h (l + 1) := by
            rw [← hP]
            exact e2 (l + 1) (Nat.le_refl _) h2
          rw [ssp_cu, k3, hPt]
        · rw [if_neg h8] at k3
          rw [ssp_co h9 h8, k3]
    · rw [ssp_co (by omega) (by omega), ssp_ko (by omega), ssp_bo (by omega)]
      exact d1 y hy
    · by_cases h9 : y = l
      · subst h9
        exact ql
      · obtain ⟨z, hz⟩ : ∃ z, y + 1 = l + 2 + z := ⟨y - l - 1, by omega⟩
        rw [hz, qhi z, ← hz]
        exact e2 y (by omega) h2
    · obtain ⟨z, hz⟩ : ∃ z, top + 1 = l + 2 + z := ⟨top - l - 1, by omega⟩
      rw [hz, qhi z, ← hz]
      exact e3
end
