/-! what refreshFirsts mends: the keys of the way -/
/-- a node is as the model has it, but perhaps the key of one entry -/
def mNd (A : cA) (S : mS) (l p : Nat) (ex : Nat → Prop) : Prop := aDp A (mb S l p) = l ∧ aEn A (mb S l p) = mc S l p ∧ ∀ j, j < mc S l p → (¬ ex j → aWf A (mb S l p) (j * 3) = ms S (fr (mc S) l (sm (mc S l) p + j))) ∧ aWf A (mb S l p) (j * 3 + 1) = (match l with | 0 => ml S (sm (mc S l) p + j) + (1 - mw S (sm (mc S l) p + j)) * 32768 | l + 1 => (mb S l (sm (mc S (l + 1)) p + j) : Int)) ∧ aWf A (mb S l p) (j * 3 + 2) = (match l with | 0 => mv S (sm (mc S l) p + j) | _ + 1 => 0)
theorem mNd_full {A : cA} {S : mS} {t : Nat} : mAb A t S ↔ ∀ l, l ≤ md S → ∀ p, p < mK S l → mNd A S l p (fun _ => False) := by
  constructor
  · intro h l hl p hp
    obtain ⟨a, b, c⟩ := h l hl p hp
    exact ⟨a, b, fun j hj => ⟨fun _ => (c j hj).1, (c j hj).2.1, (c j hj).2.2⟩⟩
  · intro h l hl p hp
    obtain ⟨a, b, c⟩ := h l hl p hp
    exact ⟨a, b, fun j hj => ⟨(c j hj).1 (fun q => q), (c j hj).2.1, (c j hj).2.2⟩⟩
/-- a node that isn't touched -/
theorem mNd_keep {A B : cA} {S : mS} {l p : Nat} {ex : Nat → Prop} (h : mNd A S l p ex) (h1 : aDp B (mb S l p) = aDp A (mb S l p)) (h2 : aEn B (mb S l p) = aEn A (mb S l p)) (h3 : aWf B (mb S l p) = aWf A (mb S l p)) : mNd B S l p ex := by
  obtain ⟨a, b, c⟩ := h
  exact ⟨h1.trans a, h2.trans b, fun j hj => by rw [h3]; exact c j hj⟩
/-- no two nodes of a file are one block -/
def mInj (S : mS) : Prop := ∀ l p l' p', l ≤ md S → p < mK S l → l' ≤ md S → p' < mK S l' → mb S l p = mb S l' p' → l = l' ∧ p = p'
/-- a way down, R l its node of level l -/
def mWay (S : mS) (R : Nat → Nat) : Prop := (∀ l, l ≤ md S → R l < mK S l) ∧ ∀ l, l < md S → sm (mc S (l + 1)) (R (l + 1)) ≤ R l ∧ R l < sm (mc S (l + 1)) (R (l + 1)) + mc S (l + 1) (R (l + 1))
theorem rf_fix {S : mS} {t : Nat} {R : Nat → Nat} (hj : mInj S) (hw : mWay S R) (hpos : ∀ l, l < md S → 1 ≤ mc S l (R l)) : ∀ (k : Nat) (B : cA), k ≤ md S → (∀ x, x ≤ md S → aWy B t x = mb S (md S - x) (R (md S - x))) → (∀ x, x < md S → aPl B t x = (R (md S - x - 1) : Int) - sm (mc S (md S - x)) (R (md S - x))) →
    (∀ l, l ≤ md S → ∀ p, p < mK S l → mNd B S l p (fun j => md S - k < l ∧ p = R l ∧ sm (mc S l) p + j = R (l - 1))) → mAb (rfA B t k) t S := by
  intro k
  induction k with
  | zero =>
    intro B _ _ _ h
    refine mNd_full.mpr (fun l hl p hp => ?_)
    obtain ⟨a, b, c⟩ := h l hl p hp
    exact ⟨a, b, fun j hj => ⟨fun _ => (c j hj).1 (fun q => by omega), (c j hj).2.1, (c j hj).2.2⟩⟩
  | succ k ih =>
    intro B hk hW hP h
    obtain ⟨L, hL, hL1⟩ : ∃ L, md S - (k + 1) = L ∧ md S - k = L + 1 := ⟨md S - (k + 1), rfl, by omega⟩
    have w1 : aWy B t k = mb S (L + 1) (R (L + 1)) := by rw [hW k (by omega), hL1]
    have w2 : aWy B t (k + 1) = mb S L (R L) := by rw [hW (k + 1) hk, hL]
    have p1 : aPl B t k = (R L : Int) - sm (mc S (L + 1)) (R (L + 1)) := by
      have := hP k (by omega)
      rw [hL1] at this
      exact this
    have r1 := hw.1 (L + 1) (by omega)
    have r2 := hw.1 L (by omega)
    obtain ⟨q1, q2⟩ := hw.2 L (by omega)
    obtain ⟨a1, b1, c1⟩ := h L (by omega) (R L) r2
    have hp1 := hpos L (by omega)
    have key : gWd (aWf B (aWy B t (k + 1))) (aEn B (aWy B t (k + 1))) 0 0 = ms S (fr (mc S) (L + 1) (R L)) := by
      rw [w2, b1, gWd_in (by omega)]
      have := (c1 0 (by omega)).1 (fun q => by omega)
      exact this
    have e5 : (aPl B t k * 3).toNat = (R L - sm (mc S (L + 1)) (R (L + 1))) * 3 := by
      rw [p1]
      omega
    show mAb (rfA (sWf B (aWy B t k) (gF (aWf B (aWy B t k)) (aPl B t k * 3).toNat (gWd (aWf B (aWy B t (k + 1))) (aEn B (aWy B t (k + 1))) 0 0))) t k) t S
    rw [key, e5]
    refine ih _ (by omega) hW hP (fun l hl p hp => ?_)
    by_cases hlp : l = L + 1 ∧ p = R (L + 1)
    · obtain ⟨rfl, rfl⟩ := hlp
      obtain ⟨a, b, c⟩ := h (L + 1) hl _ hp
      refine ⟨a, b, fun j hj9 => ?_⟩
      have ew : ∀ x, aWf (sWf B (aWy B t k) (gF (aWf B (aWy B t k)) ((R L - sm (mc S (L + 1)) (R (L + 1))) * 3) (ms S (fr (mc S) (L + 1) (R L))))) (mb S (L + 1) (R (L + 1))) x = gF (aWf B (mb S (L + 1) (R (L + 1)))) ((R L - sm (mc S (L + 1)) (R (L + 1))) * 3) (ms S (fr (mc S) (L + 1) (R L))) x := by
        intro x
        rw [w1]
        show gF (aWf B) (mb S (L + 1) (R (L + 1))) _ (mb S (L + 1) (R (L + 1))) x = _
        rw [gF_s]
      rw [ew, ew, ew]
      refine ⟨fun _ => ?_, ?_, ?_⟩
      · by_cases hj2 : j = R L - sm (mc S (L + 1)) (R (L + 1))
        · rw [hj2, gF_s]
          congr 2
          omega
        · rw [gF_n (by omega)]
          exact (c j hj9).1 (fun q => hj2 (by have := q.2.2; rw [show L + 1 - 1 = L by omega] at this; omega))
      · rw [gF_n (by omega)]
        exact (c j hj9).2.1
      · rw [gF_n (by omega)]
        exact (c j hj9).2.2
    · have hne : mb S l p ≠ aWy B t k := by
        rw [w1]
        intro q
        exact hlp (hj l p (L + 1) (R (L + 1)) hl hp (by omega) r1 q)
      obtain ⟨a, b, c⟩ := h l hl p hp
      refine ⟨a, b, fun j hj9 => ?_⟩
      have ew : aWf (sWf B (aWy B t k) (gF (aWf B (aWy B t k)) ((R L - sm (mc S (L + 1)) (R (L + 1))) * 3) (ms S (fr (mc S) (L + 1) (R L))))) (mb S l p) = aWf B (mb S l p) := by
        show gF (aWf B) (aWy B t k) _ (mb S l p) = _
        rw [gF_n hne]
      rw [ew]
      refine ⟨fun hne2 => (c j hj9).1 (fun q => ?_), (c j hj9).2⟩
      obtain ⟨x1, x2, x3⟩ := q
      by_cases h9 : l = L + 1
      · exact hlp ⟨h9, by rw [x2, h9]⟩
      · exact hne2 ⟨by omega, x2, x3⟩
/-- the way to a run is a way -/
theorem mQ_way {S : mS} {t m : Nat} (hs : mSh S t m) {i : Nat} (hi : i < mn S) : mWay S (fun l => mQ S i (l + 1)) := ⟨fun l hl => (mQ_in hs hi hl).1, fun l hl => ⟨(mQ_in hs hi (show l + 1 ≤ md S by omega)).2.1, (mQ_in hs hi (show l + 1 ≤ md S by omega)).2.2⟩⟩
theorem rfA_fs {t : Nat} : ∀ (k : Nat) (A : cA) (i : Nat), (∀ x, x < k → aWy A t x ≠ i) → aWf (rfA A t k) i = aWf A i := by
  intro k
  induction k with
  | zero => intro A i _; rfl
  | succ k ih =>
    intro A i h
    show aWf (rfA (sWf A (aWy A t k) _) t k) i = _
    rw [ih (sWf A (aWy A t k) _) i (fun x hx => h x (by omega))]
    show gF (aWf A) (aWy A t k) _ i = _
    rw [gF_n (Ne.symm (h k (by omega)))]
