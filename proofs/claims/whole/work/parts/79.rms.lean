/-! what removeRun leaves in the nodes -/
section
variable {A : cA} {t l : Nat}
theorem gb_at {D : cA} {o : Nat} : aTk (gbA D t o) = gF (aTk D) o 0 ∧ aEn (gbA D t o) = gF (aEn D) o 0 ∧ aDp (gbA D t o) = aDp D ∧ aWf (gbA D t o) = aWf D := ⟨rfl, rfl, gF_same _ _, rfl⟩
theorem rem_at {D : cA} {o : Nat} {p : Int} : aTk (remA D o p) = aTk D ∧ aEn (remA D o p) = gF (aEn D) o (aEn D o - 1) ∧ aDp (remA D o p) = aDp D ∧ aWf (remA D o p) = gF (aWf D) o (gRem (aWf D o) (aEn D o) p) := ⟨gF_same _ _, rfl, gF_same _ _, rfl⟩
theorem rms_at (inj : ∀ k k', k ≤ l → k' ≤ l → aWy A t k = aWy A t k' → k = k') : ∀ m, m ≤ l →
    (∀ x, (∀ k, l - m ≤ k → k ≤ l → x ≠ aWy A t k) → aWf (rmS A t l m) x = aWf A x ∧ aEn (rmS A t l m) x = aEn A x ∧ aTk (rmS A t l m) x = aTk A x) ∧
    (aWf (rmS A t l m) (aWy A t (l - m)) = gRem (aWf A (aWy A t (l - m))) (aEn A (aWy A t (l - m))) (aPl A t (l - m)) ∧ aEn (rmS A t l m) (aWy A t (l - m)) = aEn A (aWy A t (l - m)) - 1 ∧ aTk (rmS A t l m) (aWy A t (l - m)) = aTk A (aWy A t (l - m))) ∧
    (∀ k, l - m < k → k ≤ l → aEn (rmS A t l m) (aWy A t k) = 0 ∧ aTk (rmS A t l m) (aWy A t k) = 0) ∧ aDp (rmS A t l m) = aDp A := by
  intro m
  induction m with
  | zero =>
    intro _
    obtain ⟨r1, r2, r3, r4⟩ := rem_at (D := A) (o := aWy A t l) (p := aPl A t l)
    have e0 : rmS A t l 0 = remA A (aWy A t l) (aPl A t l) := rfl
    rw [e0, r1, r2, r3, r4]
    refine ⟨fun x hx => ?_, ?_, fun k h1 h2 => by omega, rfl⟩
    · have := hx l (by omega) (Nat.le_refl _)
      exact ⟨gF_n this, gF_n this, rfl⟩
    · rw [Nat.sub_zero]
      exact ⟨gF_s _ _ _, gF_s _ _ _, rfl⟩
  | succ m ih =>
    intro hm
    obtain ⟨a1, a2, a3, a4⟩ := ih (by omega)
    obtain ⟨g1, g2, g3, g4⟩ := gb_at (t := t) (D := rmS A t l m) (o := aWy A t (l - m))
    obtain ⟨r1, r2, r3, r4⟩ := rem_at (D := gbA (rmS A t l m) t (aWy A t (l - m))) (o := aWy A t (l - m - 1)) (p := aPl A t (l - m - 1))
    have e0 : rmS A t l (m + 1) = remA (gbA (rmS A t l m) t (aWy A t (l - m))) (aWy A t (l - m - 1)) (aPl A t (l - m - 1)) := rfl
    rw [e0, r1, r2, r3, r4, g1, g2, g3, g4]
    have hne : aWy A t (l - m - 1) ≠ aWy A t (l - m) := fun z => by
      have := inj _ _ (by omega) (by omega) z
      omega
    have hq := a1 (aWy A t (l - m - 1)) (fun k h1 h2 z => by
      have := inj _ _ (by omega) h2 z
      omega)
    refine ⟨fun x hx => ?_, ?_, fun k h1 h2 => ?_, a4⟩
    · have x1 := hx (l - m) (by omega) (by omega)
      have x2 := hx (l - m - 1) (by omega) (by omega)
      obtain ⟨b1, b2, b3⟩ := a1 x (fun k h1 h2 => hx k (by omega) h2)
      rw [gF_n x2, gF_n x2, gF_n x1, gF_n x1]
      exact ⟨b1, b2, b3⟩
    · rw [show l - (m + 1) = l - m - 1 by omega, gF_s, gF_s, gF_n hne, gF_n hne, hq.1, hq.2.1, hq.2.2]
      exact ⟨rfl, rfl, rfl⟩
    · have k2 : aWy A t k ≠ aWy A t (l - m - 1) := fun z => by
        have := inj _ _ h2 (by omega) z
        omega
      rw [gF_n k2]
      by_cases e : k = l - m
      · rw [e, gF_s, gF_s]
        exact ⟨rfl, rfl⟩
      · have k3 : aWy A t k ≠ aWy A t (l - m) := fun z => by
          have := inj _ _ h2 (by omega) z
          omega
        rw [gF_n k3, gF_n k3]
        exact a3 k (by omega) h2
theorem rms_num (inj : ∀ k k', k ≤ l → k' ≤ l → aWy A t k = aWy A t k' → k = k') (hd0 : aDp A (aWy A t l) = 0) (hdk : ∀ k, k < l → aDp A (aWy A t k) ≠ 0) : ∀ m, m ≤ l → aRu (rmS A t l m) = aRu A ∧ aBl (rmS A t l m) = gF (aBl A) t (aBl A t - m) ∧ aMa (rmS A t l m) = aMa A ∧ aMw (rmS A t l m) = aMw A ∧ aLb (rmS A t l m) = gF (aLb A) t (if m = 0 then aLb A t else aLb A t - 1) ∧ aLe (rmS A t l m) = aLe A + m ∧ aM (rmS A t l m) = aM A := by
  intro m
  induction m with
  | zero =>
    intro _
    refine ⟨rfl, ?_, rfl, rfl, ?_, ?_, rfl⟩
    · show aBl A = gF (aBl A) t (aBl A t - 0)
      rw [Int.sub_zero, gF_same]
    · rw [if_pos rfl, gF_same]
      rfl
    · show aLe A = aLe A + 0
      omega
  | succ m ih =>
    intro hm
    obtain ⟨a1, a2, a3, a4, a5, a6, a7⟩ := ih (by omega)
    obtain ⟨b1, b2, b3, b4⟩ := rms_at inj m (by omega)
    refine ⟨?_, ?_, ?_, ?_, ?_, ?_, a7⟩
    · show gF (aRu (rmS A t l m)) t (aRu (rmS A t l m) t) = _
      rw [gF_same, a1]
    · show gF (aBl (rmS A t l m)) t (aBl (rmS A t l m) t + -1) = _
      rw [a2, gF_uu, gF_s]
      congr 1
      omega
    · show gF (aMa (rmS A t l m)) t (aMa (rmS A t l m) t) = _
      rw [gF_same, a3]
    · show gF (aMw (rmS A t l m)) t (aMw (rmS A t l m) t) = _
      rw [gF_same, a4]
    · show gF (aLb (rmS A t l m)) t (if aDp (rmS A t l m) (aWy A t (l - m)) = 0 then aLb (rmS A t l m) t + -1 else aLb (rmS A t l m) t) = _
      rw [a5, b4, gF_uu, gF_s, if_neg (show ¬ m + 1 = 0 by omega)]
      congr 1
      by_cases e : m = 0
      · subst e
        rw [Nat.sub_zero, if_pos hd0, if_pos rfl]
        omega
      · rw [if_neg (hdk (l - m) (by omega)), if_neg e]
    · show aLe (rmS A t l m) + 1 = _
      rw [a6]
      omega
theorem cnF_give {T : Nat → Int} {b : Nat} (h1 : 1 ≤ b) (h2 : T b = 1) : ∀ n, (n < b → cnF (gF T b 0) n = cnF T n) ∧ (b ≤ n → cnF (gF T b 0) n = cnF T n + 1) := by
  intro n
  induction n with
  | zero => exact ⟨fun _ => rfl, fun h => by omega⟩
  | succ n ih =>
    refine ⟨fun h => ?_, fun h => ?_⟩
    · show cnF _ n + (if gF T b 0 (n + 1) = 0 then 1 else 0) = cnF _ n + _
      rw [ih.1 (by omega), gF_n (by omega)]
    · show cnF _ n + (if gF T b 0 (n + 1) = 0 then 1 else 0) = cnF T n + (if T (n + 1) = 0 then 1 else 0) + 1
      by_cases e : n + 1 = b
      · rw [ih.1 (by omega), e, gF_s, h2, if_pos rfl, if_neg (by decide)]
        omega
      · rw [ih.2 (by omega), gF_n e]
        omega
theorem rms_cn (inj : ∀ k k', k ≤ l → k' ≤ l → aWy A t k = aWy A t k' → k = k') {c : Nat} (hc : c ≤ l) (hb : ∀ k, l - c < k → k ≤ l → 1 ≤ aWy A t k ∧ aWy A t k ≤ 255 ∧ aTk A (aWy A t k) = 1) : ∀ m, m ≤ c → cnF (aTk (rmS A t l m)) 255 = cnF (aTk A) 255 + m := by
  intro m
  induction m with
  | zero =>
    intro _
    rw [show aTk (rmS A t l 0) = aTk A from gF_same _ _]
    show _ = _ + (0 : Int)
    omega
  | succ m ih =>
    intro hm
    obtain ⟨b1, b2, b3, b4⟩ := rms_at inj m (by omega)
    obtain ⟨c1, c2, c3⟩ := hb (l - m) (by omega) (by omega)
    have e : aTk (rmS A t l (m + 1)) = gF (aTk (rmS A t l m)) (aWy A t (l - m)) 0 := gF_same _ _
    rw [e, (cnF_give c1 (by rw [b2.2.2]; exact c3) 255).2 c2, ih (by omega)]
    omega
theorem gRem_lo {f : Nat → Int} {ent i : Int} {j e : Nat} (hi : 0 ≤ i ∧ i < ent) (he : e < 3) (hj : (j : Int) < i) : gRem f ent i (j * 3 + e) = f (j * 3 + e) := by
  unfold gRem gCp
  rw [if_neg (by omega)]
theorem gRem_hi {f : Nat → Int} {ent i : Int} {j e : Nat} (hi : 0 ≤ i ∧ i < ent) (he : e < 3) (hj : i ≤ j) (hj2 : (j : Int) + 1 < ent) : gRem f ent i (j * 3 + e) = f ((j + 1) * 3 + e) := by
  unfold gRem gCp
  rw [if_pos (by omega)]
  congr 1
  omega
end
