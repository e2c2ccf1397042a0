/-! THE CALLS, on the model -/
def StO (SS : Nat → mS) (t m : Nat) (SS' : Nat → mS) : Prop := ∃ j, (∀ i, i < j → StC (stM (SS t) t i)) ∧ ¬ StC (stM (SS t) t j) ∧ SS' = gF SS t (stM (SS t) t j) ∧ ∀ i, i ≤ j → Gd (gF SS t (stM (SS t) t i)) m
/-- there is room -/
def Ro (SS : Nat → mS) (t a b c : Nat) : Prop := ∃ T, Tn SS T ∧ ((a * md (SS t) + b : Nat) : Int) ≤ cnF T 255 ∧ ¬ (c ≤ md (SS t) ∧ 4 ≤ mc (SS t) (md (SS t)) 0)
def PutO (SS : Nat → mS) (t m : Nat) (x n v w : Int) (SS' : Nat → mS) : Prop := ∃ k S1, Fr (SS t) k x n ∧ PutR SS t m k x n v w S1 ∧ StO (gF SS t S1) t m SS'
section
variable {G : gG} {N : Option Nat} {h0 : gH} {A : cA} {SS : Nat → mS} {F : Nat → Prop} {S : mS} {T T' : Nat → Int} {t m k : Nat} {x n : Int}
theorem stM_run : ∀ n, mn (stM S t n) = mn S ∧ ms (stM S t n) = ms S ∧ ml (stM S t n) = ml S ∧ mv (stM S t n) = mv S ∧ mw (stM S t n) = mw S := by
  intro n
  induction n with
  | zero => exact ⟨rfl, rfl, rfl, rfl, rfl⟩
  | succ n ih => exact ih
theorem s_settleO (hc : CX A SS (fun _ => False)) (hm : MX A SS) (ht : t < 4) : ∃ SS' A', StO SS t (aM A) SS' ∧ Rd G m_Tree_settle [vR (517 + 6 * t)] none (hpx A h0) none none (hpx A' h0) ∧ CX A' SS' (fun _ => False) ∧ MX A' SS' ∧ aM A' = aM A ∧ mn (SS' t) = mn (SS t) := by
  obtain ⟨n, h1, h2⟩ := st_ex (SS t) t
  obtain ⟨a1, a2⟩ := s_settle (G := G) (h0 := h0) hc ht rfl h1 h2
  obtain ⟨b1, b2, b3⟩ := st_mm (A := A) (t := t) n
  obtain ⟨c1, c2, c3, c4, c5⟩ := stM_run (S := SS t) (t := t) n
  refine ⟨_, _, ⟨n, h1, h2, rfl, fun i hi => (hc.settle ht rfl i (fun k hk => h1 k (by omega))).1.gd (st_mm i).2.2⟩, a1, a2, fun t' ht' => ?_, b3, by rw [gF_s]; exact c1⟩
  rw [b1, b2]
  by_cases e : t' = t
  · subst e
    rw [gF_s, c1, c3, c5]
    exact hm t' ht'
  · rw [gF_n e]
    exact hm t' ht'
theorem fr_or (hr : mRn S) (hn : 1 ≤ n) : (∃ k, Fr S k x n ∧ (lsS S (x + n - 1) = -1 ∨ (0 ≤ lsS S (x + n - 1) ∧ ms S (lsS S (x + n - 1)).toNat + ml S (lsS S (x + n - 1)).toNat ≤ x))) ∨ (¬ (∃ k, Fr S k x n) ∧ 0 ≤ lsS S (x + n - 1) ∧ x < ms S (lsS S (x + n - 1)).toNat + ml S (lsS S (x + n - 1)).toNat) := by
  obtain ⟨g1, g2, g3⟩ := lsR_spec hr (x + n - 1)
  show (∃ k, Fr S k x n ∧ (lsR (ms S) (x + n - 1) (mn S) = -1 ∨ (0 ≤ lsR (ms S) (x + n - 1) (mn S) ∧ ms S (lsR (ms S) (x + n - 1) (mn S)).toNat + ml S (lsR (ms S) (x + n - 1) (mn S)).toNat ≤ x))) ∨ (¬ (∃ k, Fr S k x n) ∧ 0 ≤ lsR (ms S) (x + n - 1) (mn S) ∧ x < ms S (lsR (ms S) (x + n - 1) (mn S)).toNat + ml S (lsR (ms S) (x + n - 1) (mn S)).toNat)
  generalize lsR (ms S) (x + n - 1) (mn S) = i at *
  have hi : ∀ p, i + 1 ≤ (p : Nat) → p < mn S → x + n ≤ ms S p := by
    intro p p1 p2
    have h1 := g3 (by omega)
    by_cases e : p = (i + 1).toNat
    · rw [e]
      omega
    · have := hr.lt (show (i + 1).toNat < p by omega) p2
      omega
  by_cases h : 0 ≤ i
  · have h2 := g2 h
    by_cases h3 : x < ms S i.toNat + ml S i.toNat
    · refine Or.inr ⟨fun ⟨k, hk⟩ => ?_, h, h3⟩
      by_cases h4 : i.toNat < k
      · have := hk.2.1 i.toNat h4
        omega
      · have := hk.2.2 i.toNat (by omega) (by omega)
        omega
    · refine Or.inl ⟨(i + 1).toNat, ⟨by omega, fun p hp => ?_, fun p p1 p2 => hi p (by omega) p2⟩, Or.inr ⟨h, by omega⟩⟩
      by_cases e : p = i.toNat
      · rw [e]
        omega
      · have h5 := hr.mono (show p < i.toNat by omega) (by omega)
        have h6 := (hr.1 i.toNat (by omega)).2.1
        omega
  · exact Or.inl ⟨0, ⟨by omega, fun p hp => absurd hp (Nat.not_lt_zero _), fun p p1 p2 => hi p (by omega) p2⟩, Or.inl (by omega)⟩
theorem s_hasAny (hc : CX A SS F) (ht : t < 4) (hx : 0 ≤ x ∧ x ≤ 65536) (hn : 1 ≤ n ∧ n ≤ 65536) : ((∃ k, Fr (SS t) k x n) ∧ Rd G m_Tree_hasAny [vR (517 + 6 * t), vI x, vI n] N (hpx A h0) (some (vI 0)) N (hpx (fA A t (SS t) (x + n - 1)) h0)) ∨ (¬ (∃ k, Fr (SS t) k x n) ∧ Rd G m_Tree_hasAny [vR (517 + 6 * t), vI x, vI n] N (hpx A h0) (some (vI 1)) N (hpx (fA A t (SS t) (x + n - 1)) h0)) := by
  obtain ⟨hs, hr, ha, -⟩ := hc.2.1 t ht
  obtain ⟨g1, g2, g3⟩ := lsR_spec hr (x + n - 1)
  have c := c_hasAny (G := G) (N := N) (h0 := h0) (x := x) (n := n) hc.1 ht hx (by omega) (path_of ht hs hr ha g1 g2 g3)
  rcases fr_or (x := x) hr hn.1 with ⟨k, hk, h9⟩ | ⟨h1, h2, h3⟩
  · refine Or.inl ⟨⟨k, hk⟩, ?_⟩
    rw [if_neg ?_] at c
    · exact c
    · rcases h9 with h9 | ⟨h8, h9⟩
      · have h9 : lsR (ms (SS t)) (x + n - 1) (mn (SS t)) = -1 := h9
        rw [h9]
        obtain ⟨e1, e2, e3, e4⟩ := run_no (A := A) (S := SS t)
        rw [e1, e2]
        omega
      · obtain ⟨e1, e2, e3, e4⟩ := run_at (A := A) ht hs hr ha (i := lsR (ms (SS t)) (x + n - 1) (mn (SS t))) ⟨h8, g1.2⟩
        rw [e1, e2]
        have h9 : ms (SS t) (lsR (ms (SS t)) (x + n - 1) (mn (SS t))).toNat + ml (SS t) (lsR (ms (SS t)) (x + n - 1) (mn (SS t))).toNat ≤ x := h9
        omega
  · refine Or.inr ⟨h1, ?_⟩
    rw [if_pos ?_] at c
    · exact c
    · obtain ⟨e1, e2, e3, e4⟩ := run_at (A := A) ht hs hr ha (i := lsR (ms (SS t)) (x + n - 1) (mn (SS t))) ⟨h2, g1.2⟩
      rw [e1, e2]
      exact h3
theorem cnF_congr : ∀ n, (∀ b, 1 ≤ b → b ≤ n → T b = T' b) → cnF T n = cnF T' n := by
  intro n
  induction n with
  | zero => intro _; rfl
  | succ n ih =>
    intro h
    show cnF T n + (if T (n + 1) = 0 then 1 else 0) = cnF T' n + (if T' (n + 1) = 0 then 1 else 0)
    rw [ih (fun b b1 b2 => h b b1 (by omega)), h (n + 1) (by omega) (by omega)]
theorem cnF_r : ∀ n, 0 ≤ cnF T n ∧ cnF T n ≤ n := by
  intro n
  induction n with
  | zero => exact ⟨Int.le_refl _, Int.le_refl _⟩
  | succ n ih =>
    show 0 ≤ cnF T n + (if T (n + 1) = 0 then 1 else 0) ∧ cnF T n + (if T (n + 1) = 0 then 1 else 0) ≤ ((n + 1 : Nat) : Int)
    split <;> omega
theorem Tn.cn (h : Tn SS T) (h' : Tn SS T') : cnF T 255 = cnF T' 255 := cnF_congr 255 (fun b b1 b2 => h.eq h' b b1 (by omega))
theorem CX.root2 (hc : CX A SS F) (ht : t < 4) : aDp A (256 + t) = md (SS t) ∧ aEn A (256 + t) = mc (SS t) (md (SS t)) 0 := by
  obtain ⟨h1, h2, h3, -⟩ := hc.2.1 t ht
  obtain ⟨a, b, -⟩ := h3 (md (SS t)) (Nat.le_refl _) 0 (by rw [h1.2.1]; omega)
  rw [h1.2.2.1] at a b
  exact ⟨a, b⟩
theorem CX.le (hc : CX A SS F) : 0 ≤ aLe A ∧ aLe A ≤ 255 := by
  rw [hc.2.2.2.2.2.2]
  exact cnF_r 255
theorem CX.ro (hc : CX A SS (fun _ => False)) {a b c : Nat} : Ro SS t a b c ↔ ((a * md (SS t) + b : Nat) : Int) ≤ aLe A ∧ ¬ (c ≤ md (SS t) ∧ 4 ≤ mc (SS t) (md (SS t)) 0) := by
  rw [hc.2.2.2.2.2.2]
  constructor
  · rintro ⟨T, h1, h2, h3⟩
    rw [h1.cn hc.tn] at h2
    exact ⟨h2, h3⟩
  · rintro ⟨h2, h3⟩
    exact ⟨_, hc.tn, h2, h3⟩
theorem s_roomForOne (hc : CX A SS (fun _ => False)) (ht : t < 4) : (Ro SS t 1 1 5 ∧ Rd G m_Tree_roomForOne [vR (517 + 6 * t)] N (hpx A h0) (some (vI 1)) N (hpx A h0)) ∨ (¬ Ro SS t 1 1 5 ∧ Rd G m_Tree_roomForOne [vR (517 + 6 * t)] N (hpx A h0) (some (vI 0)) N (hpx A h0)) := by
  have c := c_roomForOne (G := G) (N := N) (h0 := h0) hc.1 ht hc.le
  obtain ⟨d1, d2⟩ := hc.root2 ht
  rw [d1, d2] at c
  by_cases h : Ro SS t 1 1 5
  · refine Or.inl ⟨h, ?_⟩
    obtain ⟨a1, a2⟩ := hc.ro.mp h
    rw [if_pos ⟨by omega, fun q => a2 ⟨by omega, by omega⟩⟩] at c
    exact c
  · refine Or.inr ⟨h, ?_⟩
    rw [if_neg (fun q => h (hc.ro.mpr ⟨by omega, fun z => q.2 ⟨by omega, by omega⟩⟩))] at c
    exact c
theorem s_roomForTwo (hc : CX A SS (fun _ => False)) (ht : t < 4) : (Ro SS t 2 3 4 ∧ Rd G m_Tree_roomForTwo [vR (517 + 6 * t)] N (hpx A h0) (some (vI 1)) N (hpx A h0)) ∨ (¬ Ro SS t 2 3 4 ∧ Rd G m_Tree_roomForTwo [vR (517 + 6 * t)] N (hpx A h0) (some (vI 0)) N (hpx A h0)) := by
  have c := c_roomForTwo (G := G) (N := N) (h0 := h0) hc.1 ht hc.le
  obtain ⟨d1, d2⟩ := hc.root2 ht
  rw [d1, d2] at c
  by_cases h : Ro SS t 2 3 4
  · refine Or.inl ⟨h, ?_⟩
    obtain ⟨a1, a2⟩ := hc.ro.mp h
    rw [if_pos ⟨by omega, fun q => a2 ⟨by omega, by omega⟩⟩] at c
    exact c
  · refine Or.inr ⟨h, ?_⟩
    rw [if_neg (fun q => h (hc.ro.mpr ⟨by omega, fun z => q.2 ⟨by omega, by omega⟩⟩))] at c
    exact c
theorem ro_en (hc : CX A SS (fun _ => False)) (ht : t < 4) (h : Ro SS t 1 1 5) (hk : k ≤ mn (SS t)) : RmEn A (SS t) k := by
  obtain ⟨a1, a2⟩ := hc.ro.mp h
  have hs := (hc.2.1 t ht).1
  refine ⟨by omega, fun ⟨b1, b2⟩ => a2 ⟨b1, ?_⟩⟩
  have := b2 (md (SS t)) (Nat.le_refl _)
  have p1 := (pP_b hs (i := (k : Int) - 1) (by omega) (k := 0) (by omega)).1
  rw [Nat.sub_zero, show ((k : Int) - 1).toNat = k - 1 by omega] at p1
  have hb := hs.2.1
  rw [show mQ (SS t) (k - 1) (md (SS t) + 1) = 0 by omega, if_pos rfl] at this
  omega
end
