/-! THE CLASS'S CELLS, as a function of what they hold: nodes 0 .. 255 (the pool's), 256 .. 259 (the roots), four trees -/
abbrev cA : Type := (Nat → Int) × (Nat → Int) × (Nat → Int) × (Nat → Nat → Int) × (Nat → Int) × (Nat → Int) × (Nat → Int) × (Nat → Int) × (Nat → Int) × (Nat → Int) × (Nat → Nat → Nat) × (Nat → Nat → Int) × (Nat → Nat → Nat) × Int × Nat
abbrev aTk (A : cA) : Nat → Int := A.1
abbrev aDp (A : cA) : Nat → Int := A.2.1
abbrev aEn (A : cA) : Nat → Int := A.2.2.1
abbrev aWf (A : cA) : Nat → Nat → Int := A.2.2.2.1
abbrev aRu (A : cA) : Nat → Int := A.2.2.2.2.1
abbrev aBl (A : cA) : Nat → Int := A.2.2.2.2.2.1
abbrev aMa (A : cA) : Nat → Int := A.2.2.2.2.2.2.1
abbrev aMw (A : cA) : Nat → Int := A.2.2.2.2.2.2.2.1
abbrev aLb (A : cA) : Nat → Int := A.2.2.2.2.2.2.2.2.1
abbrev aLf (A : cA) : Nat → Int := A.2.2.2.2.2.2.2.2.2.1
abbrev aWy (A : cA) : Nat → Nat → Nat := A.2.2.2.2.2.2.2.2.2.2.1
abbrev aPl (A : cA) : Nat → Nat → Int := A.2.2.2.2.2.2.2.2.2.2.2.1
abbrev aFs (A : cA) : Nat → Nat → Nat := A.2.2.2.2.2.2.2.2.2.2.2.2.1
abbrev aLe (A : cA) : Int := A.2.2.2.2.2.2.2.2.2.2.2.2.2.1
abbrev aM (A : cA) : Nat := A.2.2.2.2.2.2.2.2.2.2.2.2.2.2
/-- other nodes; other words; another tree; another pool -/
def sNd (A : cA) (i : Nat) (x y z : Int) : cA := (gF (aTk A) i x, gF (aDp A) i y, gF (aEn A) i z, A.2.2.2)
def sWf (A : cA) (i : Nat) (f : Nat → Int) : cA := (A.1, A.2.1, A.2.2.1, gF (aWf A) i f, A.2.2.2.2)
def sTr (A : cA) (t : Nat) (r b m w l f : Int) : cA := (A.1, A.2.1, A.2.2.1, A.2.2.2.1, gF (aRu A) t r, gF (aBl A) t b, gF (aMa A) t m, gF (aMw A) t w, gF (aLb A) t l, gF (aLf A) t f, A.2.2.2.2.2.2.2.2.2.2)
def sWy (A : cA) (t : Nat) (f : Nat → Nat) : cA := (A.1, A.2.1, A.2.2.1, A.2.2.2.1, A.2.2.2.2.1, A.2.2.2.2.2.1, A.2.2.2.2.2.2.1, A.2.2.2.2.2.2.2.1, A.2.2.2.2.2.2.2.2.1, A.2.2.2.2.2.2.2.2.2.1, gF (aWy A) t f, A.2.2.2.2.2.2.2.2.2.2.2)
def sPl (A : cA) (t : Nat) (f : Nat → Int) : cA := (A.1, A.2.1, A.2.2.1, A.2.2.2.1, A.2.2.2.2.1, A.2.2.2.2.2.1, A.2.2.2.2.2.2.1, A.2.2.2.2.2.2.2.1, A.2.2.2.2.2.2.2.2.1, A.2.2.2.2.2.2.2.2.2.1, aWy A, gF (aPl A) t f, A.2.2.2.2.2.2.2.2.2.2.2.2)
def sFs (A : cA) (t : Nat) (f : Nat → Nat) : cA := (A.1, A.2.1, A.2.2.1, A.2.2.2.1, A.2.2.2.2.1, A.2.2.2.2.2.1, A.2.2.2.2.2.2.1, A.2.2.2.2.2.2.2.1, A.2.2.2.2.2.2.2.2.1, A.2.2.2.2.2.2.2.2.2.1, aWy A, aPl A, gF (aFs A) t f, A.2.2.2.2.2.2.2.2.2.2.2.2.2)
def sLe (A : cA) (x : Int) : cA := (A.1, A.2.1, A.2.2.1, A.2.2.2.1, A.2.2.2.2.1, A.2.2.2.2.2.1, A.2.2.2.2.2.2.1, A.2.2.2.2.2.2.2.1, A.2.2.2.2.2.2.2.2.1, A.2.2.2.2.2.2.2.2.2.1, aWy A, aPl A, aFs A, x, aM A)
/-- how many entries a node may have, its number, its places -/
def aRm (A : cA) (i : Nat) : Nat := if i < 256 then aM A else 4
def nNo (i : Nat) : Int := if i < 256 then i else 0
def oA (i : Nat) : Nat := if i < 256 then 4 + 2 * i else 518 + 6 * (i - 256)
def wA (i : Nat) : Nat := oA i + 1
theorem gF_s {α : Type} (f : Nat → α) (k : Nat) (x : α) : gF f k x k = x := by simp [gF]
theorem gF_n {α : Type} {f : Nat → α} {k j : Nat} {x : α} (h : j ≠ k) : gF f k x j = f j := by simp [gF, h]
abbrev eNd (A : cA) (i : Nat) : gE := gNd (nNo i) (aRm A i : Int) (aTk A i) (aDp A i) (aEn A i) (wA i)
abbrev eWd (A : cA) (i : Nat) : gE := gIA (aRm A i * 3) (aWf A i)
abbrev eTr (A : cA) (t : Nat) : gE := .inr (2, [vR (oA (256 + t)), vI (aRu A t), vI (aBl A t), vI (aMa A t), vI (aMw A t), vI (aLb A t), vR 2, vR (520 + 6 * t), vR (521 + 6 * t), vI (aLf A t), vR (522 + 6 * t)])
abbrev eRf (f : Nat → Nat) : gE := .inl (2, 6, .inr (.inr (fun k => if k < 6 then some (oA (f k)) else none)))
abbrev eNs : gE := .inl (2, 256, .inr (.inr (fun i => if i < 256 then some (oA i) else none)))
abbrev eTs : gE := .inl (3, 4, .inr (.inr (fun t => if t < 4 then some (517 + 6 * t) else none)))
abbrev ePo (A : cA) : gE := .inr (1, [vI (aLe A), vR 3])
abbrev eEt : gE := .inr (3, [vR 2, vR 516])
def hpT (A : cA) (t r : Nat) : gE := if r = 0 then eTr A t else if r = 1 then eNd A (256 + t) else if r = 2 then eWd A (256 + t) else if r = 3 then eRf (aWy A t) else if r = 4 then gIA 6 (aPl A t) else eRf (aFs A t)
/-- the class's cells are 1 .. 540, what is behind them is h0's -/
def hpx (A : cA) (h0 : gH) : gH := fun a => if 541 ≤ a then h0 a else if a = 0 then none else if a = 1 then some eEt else if a = 2 then some (ePo A) else if a = 3 then some eNs else if a < 516 then (if a % 2 = 0 then some (eNd A ((a - 4) / 2)) else some (eWd A ((a - 4) / 2))) else if a = 516 then some eTs else some (hpT A ((a - 517) / 6) ((a - 517) % 6))
section
variable {A : cA} {h0 : gH} {i t : Nat}
theorem oA_lt (h : i < 260) : 4 ≤ oA i ∧ oA i < 540 := by
  unfold oA
  split <;> omega
theorem hp_et : hpx A h0 1 = some eEt := by simp [hpx]
theorem hp_po : hpx A h0 2 = some (ePo A) := by simp [hpx]
theorem hp_ns : hpx A h0 3 = some eNs := by simp [hpx]
theorem hp_ts : hpx A h0 516 = some eTs := by simp [hpx]
theorem hp_t (r : Nat) (ht : t < 4) (hr : r < 6) : hpx A h0 (517 + 6 * t + r) = some (hpT A t r) := by
  unfold hpx
  rw [if_neg (by omega), if_neg (by omega), if_neg (by omega), if_neg (by omega), if_neg (by omega), if_neg (by omega), if_neg (by omega)]
  rw [show (517 + 6 * t + r - 517) / 6 = t by omega, show (517 + 6 * t + r - 517) % 6 = r by omega]
theorem hp_tr (ht : t < 4) : hpx A h0 (517 + 6 * t) = some (eTr A t) := hp_t 0 ht (by omega)
theorem hp_wy (ht : t < 4) : hpx A h0 (520 + 6 * t) = some (eRf (aWy A t)) := by
  rw [show 520 + 6 * t = 517 + 6 * t + 3 by omega, hp_t 3 ht (by omega)]
  rfl
theorem hp_pl (ht : t < 4) : hpx A h0 (521 + 6 * t) = some (gIA 6 (aPl A t)) := by
  rw [show 521 + 6 * t = 517 + 6 * t + 4 by omega, hp_t 4 ht (by omega)]
  rfl
theorem hp_fs (ht : t < 4) : hpx A h0 (522 + 6 * t) = some (eRf (aFs A t)) := by
  rw [show 522 + 6 * t = 517 + 6 * t + 5 by omega, hp_t 5 ht (by omega)]
  rfl
theorem hp_nd (hi : i < 260) : hpx A h0 (oA i) = some (eNd A i) := by
  by_cases h1 : i < 256
  · have e : oA i = 4 + 2 * i := if_pos h1
    rw [e]
    unfold hpx
    rw [if_neg (by omega), if_neg (by omega), if_neg (by omega), if_neg (by omega), if_neg (by omega), if_pos (by omega), if_pos (by omega)]
    rw [show (4 + 2 * i - 4) / 2 = i by omega]
  · have e : oA i = 517 + 6 * (i - 256) + 1 := by
      unfold oA
      rw [if_neg h1]
      omega
    rw [e, hp_t 1 (by omega) (by omega)]
    show some (eNd A (256 + (i - 256))) = _
    rw [show 256 + (i - 256) = i by omega]
theorem hp_wd (hi : i < 260) : hpx A h0 (wA i) = some (eWd A i) := by
  unfold wA
  by_cases h1 : i < 256
  · have e : oA i = 4 + 2 * i := if_pos h1
    rw [e]
    unfold hpx
    rw [if_neg (by omega), if_neg (by omega), if_neg (by omega), if_neg (by omega), if_neg (by omega), if_pos (by omega), if_neg (by omega)]
    rw [show (4 + 2 * i + 1 - 4) / 2 = i by omega]
  · have e : oA i + 1 = 517 + 6 * (i - 256) + 2 := by
      unfold oA
      rw [if_neg h1]
      omega
    rw [e, hp_t 2 (by omega) (by omega)]
    show some (eWd A (256 + (i - 256))) = _
    rw [show 256 + (i - 256) = i by omega]
end
