/-! THE MODEL of a file: its runs in order, and how many entries each node of each level has (the root is the one node of level d) -/
def sm (f : Nat → Nat) : Nat → Nat
  | 0 => 0
  | p + 1 => sm f p + f p
theorem sm_mono {f : Nat → Nat} {a b : Nat} (h : a ≤ b) : sm f a ≤ sm f b := by
  induction b with
  | zero =>
    have : a = 0 := by omega
    subst this
    exact Nat.le_refl _
  | succ b ih =>
    by_cases h1 : a = b + 1
    · subst h1
      exact Nat.le_refl _
    · exact Nat.le_trans (ih (by omega)) (Nat.le_add_right _ _)
theorem sm_lt {f : Nat → Nat} {K a b : Nat} (hf : ∀ p, p < K → 1 ≤ f p) (h : a < b) (hb : b ≤ K) : sm f a < sm f b := by
  have h1 : sm f (a + 1) ≤ sm f b := sm_mono (by omega)
  have h2 := hf a (by omega)
  have h3 : sm f (a + 1) = sm f a + f a := rfl
  omega
theorem sm_congr {f g : Nat → Nat} {K : Nat} (h : ∀ p, p < K → f p = g p) : sm f K = sm g K := by
  induction K with
  | zero => rfl
  | succ K ih =>
    show sm f K + f K = sm g K + g K
    rw [ih (fun p hp => h p (by omega)), h K (by omega)]
/-- the node that has an item -/
def lc (f : Nat → Nat) (q : Nat) : Nat → Nat
  | 0 => 0
  | p + 1 => if sm f p ≤ q then p else lc f q p
theorem lc_spec {f : Nat → Nat} {q : Nat} : ∀ K, q < sm f K → lc f q K < K ∧ sm f (lc f q K) ≤ q ∧ q < sm f (lc f q K) + f (lc f q K) := by
  intro K
  induction K with
  | zero => intro h; exact absurd h (Nat.not_lt_zero _)
  | succ K ih =>
    intro h
    unfold lc
    by_cases h1 : sm f K ≤ q
    · rw [if_pos h1]
      exact ⟨by omega, h1, h⟩
    · rw [if_neg h1]
      obtain ⟨a, b, c⟩ := ih (by omega)
      exact ⟨by omega, b, c⟩
theorem lc_uniq {f : Nat → Nat} {K p p' q : Nat} (h1 : sm f p ≤ q) (h2 : q < sm f p + f p) (h3 : sm f p' ≤ q) (h4 : q < sm f p' + f p') : p = p' := by
  rcases Nat.lt_trichotomy p p' with h | h | h
  · have : sm f (p + 1) ≤ sm f p' := sm_mono h
    have h5 : sm f (p + 1) = sm f p + f p := rfl
    omega
  · exact h
  · have : sm f (p' + 1) ≤ sm f p := sm_mono h
    have h5 : sm f (p' + 1) = sm f p' + f p' := rfl
    omega
/-- runs: how many, first file block, length, first volume block, 1 if written; depth; of each level how many nodes, their blocks, their entries -/
abbrev mS : Type := Nat × (Nat → Int) × (Nat → Int) × (Nat → Int) × (Nat → Int) × Nat × (Nat → Nat) × (Nat → Nat → Nat) × (Nat → Nat → Nat)
abbrev mn (S : mS) : Nat := S.1
abbrev ms (S : mS) : Nat → Int := S.2.1
abbrev ml (S : mS) : Nat → Int := S.2.2.1
abbrev mv (S : mS) : Nat → Int := S.2.2.2.1
abbrev mw (S : mS) : Nat → Int := S.2.2.2.2.1
abbrev md (S : mS) : Nat := S.2.2.2.2.2.1
abbrev mK (S : mS) : Nat → Nat := S.2.2.2.2.2.2.1
abbrev mb (S : mS) : Nat → Nat → Nat := S.2.2.2.2.2.2.2.1
abbrev mc (S : mS) : Nat → Nat → Nat := S.2.2.2.2.2.2.2.2
/-- the first run of an item -/
def fr (c : Nat → Nat → Nat) : Nat → Nat → Nat
  | 0, q => q
  | l + 1, q => fr c l (sm (c l) q)
def mI (S : mS) (l : Nat) : Nat := match l with
  | 0 => mn S
  | l + 1 => mK S l
/-- the shape -/
def mSh (S : mS) (t m : Nat) : Prop := md S ≤ 5 ∧ mK S (md S) = 1 ∧ mb S (md S) 0 = 256 + t ∧ (∀ l, l ≤ md S → sm (mc S l) (mK S l) = mI S l) ∧ (∀ l, l < md S → ∀ p, p < mK S l → 1 ≤ mc S l p ∧ mc S l p ≤ m ∧ 1 ≤ mb S l p ∧ mb S l p ≤ 255) ∧ mc S (md S) 0 ≤ 4 ∧ (0 < md S → 1 ≤ mc S (md S) 0)
/-- the runs -/
def mRn (S : mS) : Prop := (∀ i, i < mn S → 0 ≤ ms S i ∧ 1 ≤ ml S i ∧ ms S i + ml S i ≤ 65536 ∧ (mw S i = 0 ∨ mw S i = 1) ∧ ml S i ≤ 32767 + mw S i ∧ 1 ≤ mv S i ∧ mv S i + ml S i ≤ 16777217) ∧ ∀ i, i + 1 < mn S → ms S i + ml S i ≤ ms S (i + 1)
/-- the class's nodes are this tree -/
def mAb (A : cA) (t : Nat) (S : mS) : Prop := ∀ l, l ≤ md S → ∀ p, p < mK S l → aDp A (mb S l p) = l ∧ aEn A (mb S l p) = mc S l p ∧ ∀ j, j < mc S l p → aWf A (mb S l p) (j * 3) = ms S (fr (mc S) l (sm (mc S l) p + j)) ∧ aWf A (mb S l p) (j * 3 + 1) = (match l with | 0 => ml S (sm (mc S l) p + j) + (1 - mw S (sm (mc S l) p + j)) * 32768 | l + 1 => (mb S l (sm (mc S (l + 1)) p + j) : Int)) ∧ aWf A (mb S l p) (j * 3 + 2) = (match l with | 0 => mv S (sm (mc S l) p + j) | _ + 1 => 0)
section
variable {S : mS} {t m : Nat}
theorem mRn.mono (hr : mRn S) {i j : Nat} (h : i < j) (hj : j < mn S) : ms S i + ml S i ≤ ms S j := by
  induction j with
  | zero => omega
  | succ j ih =>
    by_cases h1 : i = j
    · subst h1
      exact hr.2 i hj
    · have h2 := ih (by omega) (by omega)
      have h3 := hr.2 j hj
      have h4 := (hr.1 j (by omega)).2.1
      omega
theorem mRn.lt (hr : mRn S) {i j : Nat} (h : i < j) (hj : j < mn S) : ms S i < ms S j := by
  have h1 := hr.mono h hj
  have h2 := (hr.1 i (by omega)).2.1
  omega
theorem mSh.pos (hs : mSh S t m) (hn : 0 < mn S) {l p : Nat} (hl : l ≤ md S) (hp : p < mK S l) : 1 ≤ mc S l p := by
  by_cases h : l < md S
  · exact (hs.2.2.2.2.1 l h p hp).1
  · have : l = md S := by omega
    subst this
    by_cases h1 : 0 < md S
    · have hp0 : p = 0 := by have := hs.2.1; omega
      subst hp0
      exact hs.2.2.2.2.2.2 h1
    · have h2 : md S = 0 := by omega
      have h3 := hs.2.2.2.1 (md S) (Nat.le_refl _)
      rw [hs.2.1, h2] at h3
      have h4 : sm (mc S 0) 1 = 0 + mc S 0 0 := rfl
      have h5 : mI S 0 = mn S := rfl
      have hp0 : p = 0 := by have := hs.2.1; omega
      rw [h2, hp0]
      omega
/-- items and runs -/
theorem fr_top (hs : mSh S t m) : ∀ l, l ≤ md S + 1 → fr (mc S) l (mI S l) = mn S := by
  intro l
  induction l with
  | zero => intro _; rfl
  | succ l ih =>
    intro h
    show fr (mc S) l (sm (mc S l) (mK S l)) = mn S
    rw [hs.2.2.2.1 l (by omega)]
    exact ih (by omega)
theorem fr_lt (hs : mSh S t m) (hn : 0 < mn S) : ∀ l, l ≤ md S + 1 → ∀ a b, a < b → b ≤ mI S l → fr (mc S) l a < fr (mc S) l b := by
  intro l
  induction l with
  | zero => intro _ a b h _; exact h
  | succ l ih =>
    intro hl a b h hb
    have hb' : b ≤ mK S l := hb
    refine ih (by omega) _ _ (sm_lt (K := mK S l) (fun p hp => hs.pos hn (by omega) hp) h hb') ?_
    rw [← hs.2.2.2.1 l (by omega)]
    exact sm_mono hb'
theorem fr_le (hs : mSh S t m) (hn : 0 < mn S) {l a b : Nat} (hl : l ≤ md S + 1) (h : a ≤ b) (hb : b ≤ mI S l) : fr (mc S) l a ≤ fr (mc S) l b := by
  by_cases h1 : a = b
  · subst h1
    exact Nat.le_refl _
  · exact Nat.le_of_lt (fr_lt hs hn l hl a b (by omega) hb)
theorem fr_n (hs : mSh S t m) (hn : 0 < mn S) {l a : Nat} (hl : l ≤ md S + 1) (h : a < mI S l) : fr (mc S) l a < mn S := by
  have := fr_lt hs hn l hl a (mI S l) h (Nat.le_refl _)
  rw [fr_top hs l hl] at this
  exact this
theorem fr_0 : ∀ (c : Nat → Nat → Nat) (l : Nat), fr c l 0 = 0 := by
  intro c l
  induction l with
  | zero => rfl
  | succ l ih => exact ih
/-- the way to a run: the item of each level that has it -/
def mQ (S : mS) (i : Nat) : Nat → Nat
  | 0 => i
  | l + 1 => lc (mc S l) (mQ S i l) (mK S l)
theorem mQ_lt (hs : mSh S t m) {i : Nat} (hi : i < mn S) : ∀ l, l ≤ md S + 1 → mQ S i l < mI S l := by
  intro l
  induction l with
  | zero => intro _; exact hi
  | succ l ih =>
    intro h
    exact (lc_spec (mK S l) (by rw [hs.2.2.2.1 l (by omega)]; exact ih (by omega))).1
theorem mQ_in (hs : mSh S t m) {i l : Nat} (hi : i < mn S) (hl : l ≤ md S) : mQ S i (l + 1) < mK S l ∧ sm (mc S l) (mQ S i (l + 1)) ≤ mQ S i l ∧ mQ S i l < sm (mc S l) (mQ S i (l + 1)) + mc S l (mQ S i (l + 1)) := lc_spec (mK S l) (by rw [hs.2.2.2.1 l hl]; exact mQ_lt hs hi l (by omega))
theorem mQ_fr (hs : mSh S t m) {i : Nat} (hi : i < mn S) : ∀ l, l ≤ md S + 1 → fr (mc S) l (mQ S i l) ≤ i ∧ i < fr (mc S) l (mQ S i l + 1) := by
  intro l
  induction l with
  | zero => intro _; exact ⟨Nat.le_refl _, Nat.lt_succ_self _⟩
  | succ l ih =>
    intro h
    obtain ⟨a1, a2, a3⟩ := mQ_in hs hi (show l ≤ md S by omega)
    obtain ⟨b1, b2⟩ := ih (by omega)
    have hn : 0 < mn S := by omega
    have hq := mQ_lt hs hi l (by omega)
    have hb : sm (mc S l) (mQ S i (l + 1)) + mc S l (mQ S i (l + 1)) ≤ mI S l := by
      have h1 : sm (mc S l) (mQ S i (l + 1) + 1) ≤ sm (mc S l) (mK S l) := sm_mono a1
      rw [hs.2.2.2.1 l (by omega)] at h1
      exact h1
    refine ⟨?_, ?_⟩
    · show fr (mc S) l (sm (mc S l) (mQ S i (l + 1))) ≤ i
      exact Nat.le_trans (fr_le hs hn (by omega) a2 (by omega)) b1
    · show i < fr (mc S) l (sm (mc S l) (mQ S i (l + 1) + 1))
      have h2 : sm (mc S l) (mQ S i (l + 1) + 1) = sm (mc S l) (mQ S i (l + 1)) + mc S l (mQ S i (l + 1)) := rfl
      rw [h2]
      exact Nat.lt_of_lt_of_le b2 (fr_le hs hn (by omega) (by omega) hb)
theorem mQ_top (hs : mSh S t m) {i : Nat} (hi : i < mn S) : mQ S i (md S + 1) = 0 := by
  have h1 := (mQ_in hs hi (Nat.le_refl (md S))).1
  have h2 := hs.2.1
  omega
end
