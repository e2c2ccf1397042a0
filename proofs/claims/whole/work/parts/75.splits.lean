/-! all the splits of one insertion -/
theorem CX.congF {A : cA} {SS : Nat → mS} {F F' : Nat → Prop} (hc : CX A SS F) (h : ∀ x, F x ↔ F' x) : CX A SS F' := by
  have : F = F' := funext (fun x => propext (h x))
  rw [← this]
  exact hc
theorem mQ_congr {S T : mS} {i : Nat} : ∀ y, (∀ k, k < y → mc S k = mc T k ∧ mK S k = mK T k) → mQ S i y = mQ T i y := by
  intro y
  induction y with
  | zero => intro _; rfl
  | succ y ih =>
    intro h
    show lc (mc S y) (mQ S i y) (mK S y) = lc (mc T y) (mQ T i y) (mK T y)
    rw [ih (fun k hk => h k (by omega)), (h y (by omega)).1, (h y (by omega)).2]
/-- n levels split, from level top - 1 down; nb y is the new block of level y -/
def spM (S : mS) (i h : Nat) (nb : Nat → Nat) (top : Nat) : Nat → mS
  | 0 => S
  | n + 1 => sSp (spM S i h nb top n) (top - 1 - n) (mQ (spM S i h nb top n) i (top - 1 - n + 1)) (mQ (spM S i h nb top n) i (top - 1 - n + 2)) h (nb (top - 1 - n))
theorem spM_run {S : mS} {i h : Nat} {nb : Nat → Nat} {top : Nat} : ∀ n, mn (spM S i h nb top n) = mn S ∧ ms (spM S i h nb top n) = ms S ∧ ml (spM S i h nb top n) = ml S ∧ mv (spM S i h nb top n) = mv S ∧ mw (spM S i h nb top n) = mw S ∧ md (spM S i h nb top n) = md S := by
  intro n
  induction n with
  | zero => exact ⟨rfl, rfl, rfl, rfl, rfl, rfl⟩
  | succ n ih => exact ih
theorem spM_lo {S : mS} {i h : Nat} {nb : Nat → Nat} {top : Nat} : ∀ n, n ≤ top → ∀ k, k < top - n → mc (spM S i h nb top n) k = mc S k ∧ mK (spM S i h nb top n) k = mK S k := by
  intro n
  induction n with
  | zero => intro _ k _; exact ⟨rfl, rfl⟩
  | succ n ih =>
    intro hn k hk
    obtain ⟨a1, a2⟩ := ih (by omega) k (by omega)
    refine ⟨?_, ?_⟩
    · show mc (sSp (spM S i h nb top n) _ _ _ _ _) k = _
      rw [ssp_co (by omega) (by omega), a1]
    · show mK (sSp (spM S i h nb top n) _ _ _ _ _) k = _
      rw [ssp_ko (by omega), a2]
section
variable {A : cA} {SS : Nat → mS} {S : mS} {t h top : Nat} {nb : Nat → Nat} {i : Int}
theorem CX.splits (hc : CX A SS (fun x => ∃ y, y < top ∧ x = nb y)) (ht : t < 4) (hS : SS t = S) (hw : WyTo A t S i) (hi : -1 ≤ i ∧ i < mn S) (hh : (aM A + 1) / 2 = h) (htop : top ≤ md S) (hfull : ∀ y, y < top → mc S y (mQ S i.toNat (y + 1)) = aM A) (hroom : mc S top (mQ S i.toNat (top + 1)) < if top = md S then 4 else aM A) (hfs : ∀ y, y < top → aFs A t (md S - y) = nb y) (hne : ∀ y y', y < y' → y' < top → nb y ≠ nb y') : ∀ n, n ≤ top →
    CX (spS A t (md S - top + 1) n) (gF SS t (spM S i.toNat h nb top n)) (fun x => ∃ y, y < top - n ∧ x = nb y) ∧ WyTo (spS A t (md S - top + 1) n) t (spM S i.toNat h nb top n) i ∧ (aFs (spS A t (md S - top + 1) n) t = aFs A t ∧ aM (spS A t (md S - top + 1) n) = aM A ∧ aMa (spS A t (md S - top + 1) n) = aMa A ∧ aMw (spS A t (md S - top + 1) n) = aMw A) ∧ mc (spM S i.toNat h nb top n) (top - n) (mQ (spM S i.toNat h nb top n) i.toNat (top - n + 1)) < (if top - n = md S then 4 else aM A) ∧ ∀ n', n' < n → SplitOk (spS A t (md S - top + 1) n') t (md S - top + 1 + n') := by
  intro n
  induction n with
  | zero =>
    intro _
    refine ⟨?_, hw, ⟨rfl, rfl, rfl, rfl⟩, hroom, fun n' h9 => absurd h9 (Nat.not_lt_zero _)⟩
    show CX A (gF SS t S) _
    rw [← hS, gF_same]
    exact hc
  | succ n ih =>
    intro hn
    obtain ⟨c1, c2, ⟨c3, c4, c5, c6⟩, c7, c8⟩ := ih (by omega)
    obtain ⟨m1, m2, m3, m4, m5, m6⟩ := spM_run (S := S) (i := i.toNat) (h := h) (nb := nb) (top := top) n
    have lo := spM_lo (S := S) (i := i.toNat) (h := h) (nb := nb) (top := top) n (by omega)
    obtain ⟨l, hl⟩ : ∃ l, top - 1 - n = l := ⟨_, rfl⟩
    have hl1 : top - n = l + 1 := by omega
    have hm5 := hc.1.1
    rw [hl1] at c7 c1
    have st := c1.split (k := md S - top + 1 + n) (l := l) (h := h) (b := nb l) ht (gF_s _ _ _) c2 (by rw [m1]; exact hi) (by rw [m6]; omega) (by rw [m6]; omega) (by rw [c4]; exact hh) (by
      rw [(lo l (by omega)).1, c4, mQ_congr (T := S) (l + 1) (fun k hk => lo k (by omega))]
      exact hfull l (by omega)) (by rw [m6, c4]; exact c7) (by
      rw [c3, show md S - top + 1 + n = md S - l by omega]
      exact hfs l (by omega)) ⟨l, by omega, rfl⟩
    obtain ⟨d1, d2, d3, d4⟩ := st
    rw [gF_uu] at d3
    obtain ⟨q1, q2, q3, q4, q5, q6, q7, q8⟩ := sp_num (A := spS A t (md S - top + 1) n) (t := t) (k := md S - top + 1 + n) (Ne.symm d2.2.2.2.2.1)
    have eM : spM S i.toNat h nb top (n + 1) = sSp (spM S i.toNat h nb top n) l (mQ (spM S i.toNat h nb top n) i.toNat (l + 1)) (mQ (spM S i.toNat h nb top n) i.toNat (l + 2)) h (nb l) := by
      rw [← hl]
      rfl
    have eS : spS A t (md S - top + 1) (n + 1) = spA (spS A t (md S - top + 1) n) t (md S - top + 1 + n) := rfl
    rw [eM, eS]
    refine ⟨d3.congF (fun x => ?_), d4, ⟨q8.trans c3, q7.trans c4, q3.trans c5, q4.trans c6⟩, ?_, fun n' h9 => ?_⟩
    · constructor
      · rintro ⟨⟨y, y1, y2⟩, y3⟩
        refine ⟨y, ?_, y2⟩
        have : y ≠ l := fun z => y3 (by rw [y2, z])
        omega
      · rintro ⟨y, y1, y2⟩
        refine ⟨⟨y, by omega, y2⟩, ?_⟩
        rw [y2]
        exact hne y l (by omega) (by omega)
    · rw [show top - (n + 1) = l by omega, if_neg (by omega), ssp_cl]
      have hin : i.toNat < mn (spM S i.toNat h nb top n) := by
        have hs := (c1.2.1 t ht).1
        rw [gF_s] at hs
        have := hs.npos (by rw [m6]; omega)
        omega
      have hs := (c1.2.1 t ht).1
      rw [gF_s] at hs
      rw [c4] at hs d1
      have e1 := ssp_mQ hs hin d1 (l + 1) (by rw [m6]; omega)
      rw [e1]
      unfold spQ
      rw [if_pos rfl]
      have e2 : mc (spM S i.toNat h nb top n) l (mQ (spM S i.toNat h nb top n) i.toNat (l + 1)) = aM A := by
        rw [(lo l (by omega)).1, mQ_congr (T := S) (l + 1) (fun k hk => lo k (by omega))]
        exact hfull l (by omega)
      split
      · rw [spl_nx, e2]
        omega
      · rw [spl_at]
        omega
    · by_cases h8 : n' = n
      · subst h8
        exact d2
      · exact c8 n' (by omega)
end
