/-! a node of the model splits in two -/
def insN {α : Type} (f : Nat → α) (p : Nat) (x : α) : Nat → α := fun q => if q < p then f q else if q = p then x else f (q - 1)
def splN (f : Nat → Nat) (p h : Nat) : Nat → Nat := fun q => if q < p then f q else if q = p then h else if q = p + 1 then f p - h else f (q - 1)
def incN (f : Nat → Nat) (p : Nat) : Nat → Nat := gF f p (f p + 1)
section
variable {α : Type} {f : Nat → Nat} {g : Nat → α} {x : α} {p q h : Nat}
theorem insN_lo (hq : q < p) : insN g p x q = g q := if_pos hq
theorem insN_at : insN g p x p = x := by
  unfold insN
  rw [if_neg (by omega), if_pos rfl]
theorem insN_hi (hq : p ≤ q) : insN g p x (q + 1) = g q := by
  unfold insN
  rw [if_neg (by omega), if_neg (by omega), Nat.add_sub_cancel]
theorem spl_lo (hq : q < p) : splN f p h q = f q := if_pos hq
theorem spl_at : splN f p h p = h := by
  unfold splN
  rw [if_neg (by omega), if_pos rfl]
theorem spl_nx : splN f p h (p + 1) = f p - h := by
  unfold splN
  rw [if_neg (by omega), if_neg (by omega), if_pos rfl]
theorem spl_hi (hq : p < q) : splN f p h (q + 1) = f q := by
  unfold splN
  rw [if_neg (by omega), if_neg (by omega), if_neg (by omega), Nat.add_sub_cancel]
theorem sm_spl_lo (hq : q ≤ p) : sm (splN f p h) q = sm f q := sm_congr (fun x hx => spl_lo (by omega))
theorem sm_spl_at : sm (splN f p h) (p + 1) = sm f p + h := by
  show sm (splN f p h) p + splN f p h p = _
  rw [spl_at, sm_spl_lo (Nat.le_refl _)]
theorem sm_spl_hi (hh : h ≤ f p) : ∀ q, p < q → sm (splN f p h) (q + 1) = sm f q := by
  intro q
  induction q with
  | zero => intro h9; omega
  | succ q ih =>
    intro hq
    by_cases h1 : q = p
    · subst h1
      show sm (splN f q h) (q + 1) + splN f q h (q + 1) = sm f q + f q
      rw [sm_spl_at, spl_nx]
      omega
    · show sm (splN f p h) (q + 1) + splN f p h (q + 1) = sm f q + f q
      rw [ih (by omega), spl_hi (by omega)]
theorem inc_at : incN f p p = f p + 1 := gF_s _ _ _
theorem inc_n (hq : q ≠ p) : incN f p q = f q := gF_n hq
theorem sm_inc_lo (hq : q ≤ p) : sm (incN f p) q = sm f q := sm_congr (fun x hx => inc_n (by omega))
theorem sm_inc_hi : ∀ q, p < q → sm (incN f p) q = sm f q + 1 := by
  intro q
  induction q with
  | zero => intro h9; omega
  | succ q ih =>
    intro hq
    show sm (incN f p) q + incN f p q = sm f q + f q + 1
    by_cases h1 : q = p
    · subst h1
      rw [sm_inc_lo (Nat.le_refl _), inc_at]
      omega
    · rw [ih (by omega), inc_n h1]
      omega
theorem fr_congr {c c' : Nat → Nat → Nat} : ∀ k, (∀ j, j < k → c j = c' j) → ∀ q, fr c k q = fr c' k q := by
  intro k
  induction k with
  | zero => intro _ q; rfl
  | succ k ih =>
    intro h9 q
    show fr c k (sm (c k) q) = fr c' k (sm (c' k) q)
    rw [h9 k (by omega)]
    exact ih (fun j hj => h9 j (by omega)) _
end
/-- what is a way to a run is the way -/
theorem mQ_is {S : mS} {t m i : Nat} (hs : mSh S t m) (hi : i < mn S) (R : Nat → Nat) (h0 : R 0 = i) (h : ∀ k, k ≤ md S → sm (mc S k) (R (k + 1)) ≤ R k ∧ R k < sm (mc S k) (R (k + 1)) + mc S k (R (k + 1))) : ∀ k, k ≤ md S + 1 → mQ S i k = R k := by
  intro k
  induction k with
  | zero => intro _; exact h0.symm
  | succ k ih =>
    intro hk
    have e := ih (by omega)
    obtain ⟨a1, a2, a3⟩ := mQ_in hs hi (show k ≤ md S by omega)
    obtain ⟨b1, b2⟩ := h k (by omega)
    rw [e] at a2 a3
    exact lc_uniq (f := mc S k) (K := mK S k) (q := R k) a2 a3 b1 b2
def sSp (S : mS) (l p P h b : Nat) : mS := (mn S, ms S, ml S, mv S, mw S, md S, gF (mK S) l (mK S l + 1), gF (mb S) l (insN (mb S l) (p + 1) b), gF (gF (mc S) l (splN (mc S l) p h)) (l + 1) (incN (mc S (l + 1)) P))
/-- node p of level l, entry of node P above it, can be split before its entry h -/
def SpO (S : mS) (m l p P h b : Nat) : Prop := l < md S ∧ p < mK S l ∧ P < mK S (l + 1) ∧ (sm (mc S (l + 1)) P ≤ p ∧ p < sm (mc S (l + 1)) P + mc S (l + 1) P) ∧ (1 ≤ h ∧ h < mc S l p) ∧ (1 ≤ b ∧ b ≤ 255) ∧ (∀ k q, k ≤ md S → q < mK S k → mb S k q ≠ b) ∧ mc S (l + 1) P < (if l + 1 = md S then 4 else m)
section
variable {S : mS} {t m l p P h b : Nat}
theorem ssp_cl : mc (sSp S l p P h b) l = splN (mc S l) p h := by
  show gF (gF (mc S) l _) (l + 1) _ l = _
  rw [gF_n (by omega), gF_s]
theorem ssp_cu : mc (sSp S l p P h b) (l + 1) = incN (mc S (l + 1)) P := gF_s _ _ _
theorem ssp_co {k : Nat} (h1 : k ≠ l) (h2 : k ≠ l + 1) : mc (sSp S l p P h b) k = mc S k := by
  show gF (gF (mc S) l _) (l + 1) _ k = _
  rw [gF_n h2, gF_n h1]
theorem ssp_kl : mK (sSp S l p P h b) l = mK S l + 1 := gF_s _ _ _
theorem ssp_ko {k : Nat} (h1 : k ≠ l) : mK (sSp S l p P h b) k = mK S k := gF_n h1
theorem ssp_bl : mb (sSp S l p P h b) l = insN (mb S l) (p + 1) b := gF_s _ _ _
theorem ssp_bo {k : Nat} (h1 : k ≠ l) : mb (sSp S l p P h b) k = mb S k := gF_n h1
theorem ssp_fl {k : Nat} (hk : k ≤ l) (q : Nat) : fr (mc (sSp S l p P h b)) k q = fr (mc S) k q := fr_congr k (fun j hj => ssp_co (by omega) (by omega)) q
theorem ssp_f1 (q : Nat) : fr (mc (sSp S l p P h b)) (l + 1) q = fr (mc S) l (sm (splN (mc S l) p h) q) := by
  show fr _ l (sm (mc (sSp S l p P h b) l) q) = _
  rw [ssp_cl, ssp_fl (Nat.le_refl _)]
theorem ssp_f1_lo {q : Nat} (hq : q ≤ p) : fr (mc (sSp S l p P h b)) (l + 1) q = fr (mc S) (l + 1) q := by
  rw [ssp_f1, sm_spl_lo hq]
  rfl
theorem ssp_f1_at : fr (mc (sSp S l p P h b)) (l + 1) (p + 1) = fr (mc S) l (sm (mc S l) p + h) := by
  rw [ssp_f1, sm_spl_at]
theorem ssp_f1_hi {q : Nat} (hh : h ≤ mc S l p) (hq : p < q) : fr (mc (sSp S l p P h b)) (l + 1) (q + 1) = fr (mc S) (l + 1) q := by
  rw [ssp_f1, sm_spl_hi hh q hq]
  rfl
theorem ssp_f2 (o : SpO S m l p P h b) : ∀ k, l + 2 ≤ k → ∀ q, fr (mc (sSp S l p P h b)) k q = fr (mc S) k q := by
  obtain ⟨o1, o2, o3, ⟨o4, o5⟩, ⟨o6, o7⟩, o8, o9, o10⟩ := o
  intro k
  induction k with
  | zero => intro h9; omega
  | succ k ih =>
    intro hk q
    by_cases h1 : k = l + 1
    · subst h1
      show fr _ (l + 1) (sm (mc (sSp S l p P h b) (l + 1)) q) = fr (mc S) (l + 1) (sm (mc S (l + 1)) q)
      rw [ssp_cu]
      by_cases h2 : q ≤ P
      · have h3 : sm (mc S (l + 1)) q ≤ sm (mc S (l + 1)) P := sm_mono h2
        rw [sm_inc_lo h2, ssp_f1_lo (by omega)]
      · have h3 : sm (mc S (l + 1)) (P + 1) ≤ sm (mc S (l + 1)) q := sm_mono (by omega)
        have h4 : sm (mc S (l + 1)) (P + 1) = sm (mc S (l + 1)) P + mc S (l + 1) P := rfl
        rw [sm_inc_hi q (by omega), ssp_f1_hi (by omega) (by omega)]
    · show fr _ k (sm (mc (sSp S l p P h b) k) q) = fr (mc S) k (sm (mc S k) q)
      rw [ssp_co (by omega) h1]
      exact ih (by omega) _
theorem ssp_sh (hs : mSh S t m) (o : SpO S m l p P h b) : mSh (sSp S l p P h b) t m := by
  obtain ⟨o1, o2, o3, ⟨o4, o5⟩, ⟨o6, o7⟩, o8, o9, o10⟩ := o
  obtain ⟨s1, s2, s3, s4, s5, s6, s7⟩ := hs
  refine ⟨s1, ?_, ?_, fun k hk => ?_, fun k hk q hq => ?_, ?_, ?_⟩
  · show mK (sSp S l p P h b) (md S) = 1
    rw [ssp_ko (by omega)]
    exact s2
  · show mb (sSp S l p P h b) (md S) 0 = _
    rw [ssp_bo (by omega)]
    exact s3
  · have hk : k ≤ md S := hk
    have e := s4 k hk
    by_cases h1 : k = l
    · subst h1
      rw [ssp_cl, ssp_kl, sm_spl_hi (by omega) _ o2, e]
      cases k with
      | zero => rfl
      | succ k =>
        show mK S k = mK (sSp S (k + 1) p P h b) k
        rw [ssp_ko (by omega)]
    · by_cases h2 : k = l + 1
      · subst h2
        rw [ssp_cu, ssp_ko (by omega), sm_inc_hi _ o3, e]
        show mK S l + 1 = mK (sSp S l p P h b) l
        rw [ssp_kl]
      · rw [ssp_co h1 h2, ssp_ko h1, e]
        cases k with
        | zero => rfl
        | succ k =>
          show mK S k = mK (sSp S l p P h b) k
          rw [ssp_ko (by omega)]
  · have hk : k < md S := hk
    by_cases h1 : k = l
    · subst h1
      rw [ssp_cl, ssp_bl]
      rw [ssp_kl] at hq
      have w := s5 k hk p o2
      rcases Nat.lt_trichotomy q p with h9 | h9 | h9
      · rw [spl_lo h9, insN_lo (by omega)]
        exact s5 k hk q (by omega)
      · subst h9
        rw [spl_at, insN_lo (by omega)]
        omega
      · by_cases h8 : q = p + 1
        · subst h8
          rw [spl_nx, insN_at]
          omega
        · obtain ⟨r, rfl⟩ : ∃ r, q = r + 1 := ⟨q - 1, by omega⟩
          rw [spl_hi (by omega), insN_hi (by omega)]
          exact s5 k hk r (by omega)
    · rw [ssp_bo h1]
      rw [ssp_ko h1] at hq
      have w := s5 k hk q hq
      by_cases h2 : k = l + 1
      · subst h2
        rw [ssp_cu]
        by_cases h3 : q = P
        · subst h3
          rw [inc_at]
          rw [if_neg (by omega)] at o10
          omega
        · rw [inc_n h3]
          exact w
      · rw [ssp_co h1 h2]
        exact w
  · show mc (sSp S l p P h b) (md S) 0 ≤ 4
    by_cases h2 : md S = l + 1
    · have hP : P = 0 := by
        rw [← h2] at o3
        omega
      rw [h2, ssp_cu, hP, inc_at]
      rw [if_pos h2.symm, hP] at o10
      omega
    · rw [ssp_co (by omega) h2]
      exact s6
  · intro hd
    show 1 ≤ mc (sSp S l p P h b) (md S) 0
    have hd : 0 < md S := hd
    by_cases h2 : md S = l + 1
    · have hP : P = 0 := by
        rw [← h2] at o3
        omega
      rw [h2, ssp_cu, hP, inc_at]
      omega
    · rw [ssp_co (by omega) h2]
      exact s7 hd
/-- the nodes: the new one, and the old ones -/
theorem ssp_old {k q : Nat} (o2 : p < mK S l) (hq : q < mK (sSp S l p P h b) k) : (k = l ∧ q = p + 1 ∧ mb (sSp S l p P h b) k q = b) ∨ ∃ r, r < mK S k ∧ mb (sSp S l p P h b) k q = mb S k r ∧ q = if k = l ∧ p < r then r + 1 else r := by
  by_cases h1 : k = l
  · subst h1
    rw [ssp_kl] at hq
    rw [ssp_bl]
    by_cases h9 : q ≤ p
    · exact Or.inr ⟨q, by omega, insN_lo (by omega), by rw [if_neg (by omega)]⟩
    · by_cases h8 : q = p + 1
      · subst h8
        exact Or.inl ⟨rfl, rfl, insN_at⟩
      · obtain ⟨r, rfl⟩ : ∃ r, q = r + 1 := ⟨q - 1, by omega⟩
        exact Or.inr ⟨r, by omega, insN_hi (by omega), by rw [if_pos ⟨rfl, by omega⟩]⟩
  · rw [ssp_ko h1] at hq
    rw [ssp_bo h1]
    exact Or.inr ⟨q, hq, rfl, by rw [if_neg (fun z => h1 z.1)]⟩
theorem ssp_inj (hj : mInj S) (o : SpO S m l p P h b) : mInj (sSp S l p P h b) := by
  obtain ⟨o1, o2, o3, ⟨o4, o5⟩, ⟨o6, o7⟩, o8, o9, o10⟩ := o
  intro k q k' q' hk hq hk' hq' e
  have hk : k ≤ md S := hk
  have hk' : k' ≤ md S := hk'
  rcases ssp_old o2 hq with ⟨a1, a2, a3⟩ | ⟨r, a1, a2, a3⟩ <;> rcases ssp_old o2 hq' with ⟨b1, b2, b3⟩ | ⟨r', b1, b2, b3⟩
  · exact ⟨by omega, by omega⟩
  · rw [a3, b2] at e
    exact absurd e.symm (o9 k' r' hk' b1)
  · rw [a2, b3] at e
    exact absurd e (o9 k r hk a1)
  · rw [a2, b2] at e
    obtain ⟨rfl, rfl⟩ := hj k r k' r' hk a1 hk' b1 e
    exact ⟨rfl, by rw [a3, b3]⟩
/-- the way to a run -/
def spQ (S : mS) (i l h : Nat) (k : Nat) : Nat := if k = l + 1 then (if sm (mc S l) (mQ S i (l + 1)) + h ≤ mQ S i l then mQ S i (l + 1) + 1 else mQ S i (l + 1)) else mQ S i k
theorem ssp_mQ {i : Nat} (hs : mSh S t m) (hi : i < mn S) (o : SpO S m l (mQ S i (l + 1)) (mQ S i (l + 2)) h b) : ∀ k, k ≤ md S + 1 → mQ (sSp S l (mQ S i (l + 1)) (mQ S i (l + 2)) h b) i k = spQ S i l h k := by
  have hs' := ssp_sh hs o
  have o' := o
  obtain ⟨o1, o2, o3, ⟨o4, o5⟩, ⟨o6, o7⟩, o8, o9, o10⟩ := o
  refine mQ_is hs' hi (spQ S i l h) (if_neg (by omega)) (fun k hk => ?_)
  have hk : k ≤ md S := hk
  obtain ⟨a1, a2, a3⟩ := mQ_in hs hi hk
  have eo : ∀ k, k ≠ l + 1 → spQ S i l h k = mQ S i k := fun k h9 => if_neg h9
  by_cases h1 : k = l
  · subst h1
    rw [ssp_cl, eo k (by omega)]
    unfold spQ
    rw [if_pos rfl]
    by_cases h2 : sm (mc S k) (mQ S i (k + 1)) + h ≤ mQ S i k
    · rw [if_pos h2, sm_spl_at, spl_nx]
      omega
    · rw [if_neg h2, sm_spl_lo (Nat.le_refl _), spl_at]
      omega
  · by_cases h2 : k = l + 1
    · subst h2
      rw [ssp_cu, eo (l + 1 + 1) (by omega), inc_at, sm_inc_lo (Nat.le_refl _)]
      unfold spQ
      rw [if_pos rfl]
      split
      · omega
      · omega
    · rw [ssp_co h1 h2, eo k h2, eo (k + 1) (by omega)]
      exact ⟨a2, a3⟩
end
