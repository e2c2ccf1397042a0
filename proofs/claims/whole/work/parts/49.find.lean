/-! Tree.find: the way to a file block -/
/-- the first k values of one, the others of another -/
def mix {α : Type} (f g : Nat → α) (k : Nat) : Nat → α := fun j => if j < k then f j else g j
theorem mix_0 {α : Type} (f g : Nat → α) : mix f g 0 = g := by
  funext j
  simp [mix]
theorem mix_s {α : Type} (f g : Nat → α) (k : Nat) : gF (mix f g k) k (f k) = mix f g (k + 1) := by
  funext j
  unfold gF mix
  by_cases h1 : j = k
  · rw [if_pos h1, if_pos (by omega), h1]
  · rw [if_neg h1]
    by_cases h2 : j < k
    · rw [if_pos h2, if_pos (by omega)]
    · rw [if_neg h2, if_neg (by omega)]
theorem gF_uu {α : Type} (f : Nat → α) (k : Nat) (x y : α) : gF (gF f k x) k y = gF f k y := by
  funext j
  unfold gF
  split <;> rfl
theorem gF_same {α : Type} (f : Nat → α) (k : Nat) : gF f k (f k) = f := by
  funext j
  unfold gF
  by_cases h : j = k
  · rw [if_pos h, h]
  · rw [if_neg h]
/-- the tree's row, with another leaf -/
def sLf (A : cA) (t : Nat) (x : Int) : cA := sTr A t (aRu A t) (aBl A t) (aMa A t) (aMw A t) (aLb A t) x
/-- another way, other places, another leaf -/
def fG (A : cA) (t : Nat) (f : Nat → Nat) (g : Nat → Int) (x : Int) : cA := (aTk A, aDp A, aEn A, aWf A, aRu A, aBl A, aMa A, aMw A, aLb A, gF (aLf A) t x, gF (aWy A) t f, gF (aPl A) t g, aFs A, aLe A, aM A)
theorem fG_0 (A : cA) (t : Nat) : fG A t (aWy A t) (aPl A t) (aLf A t) = A := by
  unfold fG
  rw [gF_same, gF_same, gF_same]
theorem fG_wy (A : cA) (t : Nat) (f : Nat → Nat) (g : Nat → Int) (x : Int) : aWy (fG A t f g x) t = f := gF_s _ _ _
theorem fG_pl (A : cA) (t : Nat) (f : Nat → Nat) (g : Nat → Int) (x : Int) : aPl (fG A t f g x) t = g := gF_s _ _ _
theorem fG_lf (A : cA) (t : Nat) (f : Nat → Nat) (g : Nat → Int) (x : Int) : aLf (fG A t f g x) t = x := gF_s _ _ _
theorem sWy_fG (A : cA) (t : Nat) (f f' : Nat → Nat) (g : Nat → Int) (x : Int) : sWy (fG A t f g x) t f' = fG A t f' g x := by
  show (aTk A, aDp A, aEn A, aWf A, aRu A, aBl A, aMa A, aMw A, aLb A, gF (aLf A) t x, gF (gF (aWy A) t f) t f', gF (aPl A) t g, aFs A, aLe A, aM A) = _
  rw [gF_uu]
  rfl
theorem sPl_fG (A : cA) (t : Nat) (f : Nat → Nat) (g g' : Nat → Int) (x : Int) : sPl (fG A t f g x) t g' = fG A t f g' x := by
  show (aTk A, aDp A, aEn A, aWf A, aRu A, aBl A, aMa A, aMw A, aLb A, gF (aLf A) t x, gF (aWy A) t f, gF (gF (aPl A) t g) t g', aFs A, aLe A, aM A) = _
  rw [gF_uu]
  rfl
theorem sLf_fG (A : cA) (t : Nat) (f : Nat → Nat) (g : Nat → Int) (x y : Int) : sLf (fG A t f g x) t y = fG A t f g y := by
  show (aTk A, aDp A, aEn A, aWf A, gF (aRu A) t (aRu A t), gF (aBl A) t (aBl A t), gF (aMa A) t (aMa A t), gF (aMw A) t (aMw A t), gF (aLb A) t (aLb A t), gF (gF (aLf A) t x) t y, gF (aWy A) t f, gF (aPl A) t g, aFs A, aLe A, aM A) = _
  rw [gF_uu, gF_same, gF_same, gF_same, gF_same, gF_same]
  rfl
/-- k nodes of the way found -/
def fnd (A : cA) (t : Nat) (W : Nat → Nat) (P : Nat → Int) (k : Nat) (x : Int) : cA := fG A t (mix W (aWy A t) k) (mix P (aPl A t) k) x
theorem fnd_0 (A : cA) (t : Nat) (W : Nat → Nat) (P : Nat → Int) : fnd A t W P 0 (aLf A t) = A := by
  unfold fnd
  rw [mix_0, mix_0, fG_0]
def gSrt (f : Nat → Int) (n : Int) : Prop := ∀ x y : Nat, x ≤ y → (y : Int) < n → f (x * 3) ≤ f (y * 3)
/-- what makes W, P the way to b: d nodes below the root -/
def PathTo (A : cA) (t : Nat) (b : Int) (d : Nat) (W : Nat → Nat) (P : Nat → Int) : Prop := d ≤ 5 ∧ W 0 = 256 + t ∧ (∀ k, k ≤ d → W k < 260 ∧ aDp A (W k) = (d : Int) - k ∧ gSrt (aWf A (W k)) (aEn A (W k)) ∧ P k = if k = d then gLu (aWf A (W k)) b (aEn A (W k)).toNat else if gLu (aWf A (W k)) b (aEn A (W k)).toNat < 0 then 0 else gLu (aWf A (W k)) b (aEn A (W k)).toNat) ∧ ∀ k, k < d → gWd (aWf A (W k)) (aEn A (W k)) (P k) 1 = W (k + 1) ∧ W (k + 1) < 256
theorem gLu_r (f : Nat → Int) (b : Int) : ∀ n : Nat, -1 ≤ gLu f b n ∧ gLu f b n < n := by
  intro n
  induction n with
  | zero => simp [gLu]
  | succ n ih =>
    simp only [gLu]
    split
    · omega
    · omega
section
variable {G : gG} {A : cA} {h0 : gH} {t : Nat} {b : Int} {d : Nat} {W : Nat → Nat} {P : Nat → Int} {N : Option Nat}
theorem fnd_ok {k : Nat} {x : Int} (ok : aOk A) : aOk (fnd A t W P k x) := ok
set_option maxHeartbeats 4000000 in
theorem c_find (ok : aOk A) (ht : t < 4) (rb : (-2147483648 ≤ b ∧ b ≤ 2147483647)) (hp : PathTo A t b d W P) : Rd G m_Tree_find [vR (517 + 6 * t), vI b] N (hpx A h0) none N (hpx (fnd A t W P (d + 1) d) h0) := by
  refine Rn.of rfl rfl rfl ?_
  have hM := ok_Tree_find
  obtain ⟨hd, hW0, hk, hn⟩ := hp
  have loop : ∀ (n k : Nat) (x : Int) (y : Option gV), k + n = d → Go G m_Tree_find (gFin G (gEq none N (hpx (fnd A t W P (d + 1) d) h0)) gNo) 7 [some (vR (517 + 6 * t)), some (vI b), some (vR (oA (W k))), some (vI k), y] [] N (hpx (fnd A t W P k x) h0) 0 0 := by
    intro n
    induction n with
    | zero =>
      intro k x y hkn
      have hkd : k = d := by omega
      subst hkd
      obtain ⟨a1, a2, a3, a4⟩ := hk k (by omega)
      rw [if_pos rfl] at a4
      have ok' : aOk (fnd A t W P k x) := ok
      have k1 := hp_tr (A := fnd A t W P k x) (h0 := h0) ht
      have k2 := hp_wy (A := fnd A t W P k x) (h0 := h0) ht
      have k4 := hp_nd (A := fnd A t W P k x) (h0 := h0) a1
      repeat (first | refine go_pure hM rfl ?_ | (refine go_get (fs := ?_) (v := ?_) hM rfl ?_ ?_ ?_; rotate_left 2; assumption; rfl) | refine go_ldc hM rfl ?_)
      refine go_icmp_ge hM rfl (by omega) (by omega) (fun hc => absurd hc (by omega)) (fun hc => ?_)
      repeat (first | refine go_pure hM rfl ?_ | (refine go_get (fs := ?_) (v := ?_) hM rfl ?_ ?_ ?_; rotate_left 2; assumption; rfl) | refine go_ldc hM rfl ?_)
      refine go_cV hM rfl rfl rfl k4 rfl (p_lastUpTo ok' a1 rb a3) rfl ?_
      repeat (first | refine go_pure hM rfl ?_ | (refine go_get (fs := ?_) (v := ?_) hM rfl ?_ ?_ ?_; rotate_left 2; assumption; rfl) | refine go_ldc hM rfl ?_)
      refine go_aast hM rfl k2 rfl k4 rfl (by omega) (by omega) (by omega) ?_
      have e1 : (k : Int).toNat = k := by omega
      have e2 : sWy (fnd A t W P k x) t (gF (aWy (fnd A t W P k x) t) k (W k)) = fG A t (mix W (aWy A t) (k + 1)) (mix P (aPl A t) k) x := by
        unfold fnd
        rw [fG_wy, mix_s, sWy_fG]
      rw [e1, eRf_set (by omega), up_wy ht, e2]
      have j1 := hp_tr (A := fG A t (mix W (aWy A t) (k + 1)) (mix P (aPl A t) k) x) (h0 := h0) ht
      have j3 := hp_pl (A := fG A t (mix W (aWy A t) (k + 1)) (mix P (aPl A t) k) x) (h0 := h0) ht
      repeat (first | refine go_pure hM rfl ?_ | (refine go_get (fs := ?_) (v := ?_) hM rfl ?_ ?_ ?_; rotate_left 2; assumption; rfl) | refine go_ldc hM rfl ?_)
      refine go_iast hM rfl j3 (by omega) (by omega) (by omega) ?_
      have e3 : ∀ c, sPl (fG A t (mix W (aWy A t) (k + 1)) (mix P (aPl A t) k) x) t (gF (aPl (fG A t (mix W (aWy A t) (k + 1)) (mix P (aPl A t) k) x) t) k c) = fG A t (mix W (aWy A t) (k + 1)) (gF (mix P (aPl A t) k) k c) x := fun c => by
        rw [fG_pl, sPl_fG]
      rw [e1, up_pl ht, e3]
      rw [show gLu (aWf (fnd A t W P k x) (W k)) b (aEn (fnd A t W P k x) (W k)).toNat = P k from a4.symm, mix_s]
      have i1 := hp_tr (A := fG A t (mix W (aWy A t) (k + 1)) (mix P (aPl A t) (k + 1)) x) (h0 := h0) ht
      repeat (first | refine go_pure hM rfl ?_ | (refine go_get (fs := ?_) (v := ?_) hM rfl ?_ ?_ ?_; rotate_left 2; assumption; rfl) | refine go_ldc hM rfl ?_)
      refine go_put hM rfl i1 rfl rfl ?_
      have e5 : hpx (sTr (fG A t (mix W (aWy A t) (k + 1)) (mix P (aPl A t) (k + 1)) x) t (aRu (fG A t (mix W (aWy A t) (k + 1)) (mix P (aPl A t) (k + 1)) x) t) (aBl (fG A t (mix W (aWy A t) (k + 1)) (mix P (aPl A t) (k + 1)) x) t) (aMa (fG A t (mix W (aWy A t) (k + 1)) (mix P (aPl A t) (k + 1)) x) t) (aMw (fG A t (mix W (aWy A t) (k + 1)) (mix P (aPl A t) (k + 1)) x) t) (aLb (fG A t (mix W (aWy A t) (k + 1)) (mix P (aPl A t) (k + 1)) x) t) k) h0 = hpx (fnd A t W P (k + 1) k) h0 := by
        have := sLf_fG A t (mix W (aWy A t) (k + 1)) (mix P (aPl A t) (k + 1)) x k
        unfold sLf at this
        rw [this]
        rfl
      rw [up_tr ht, e5]
      have i4 := hp_nd (A := fnd A t W P (k + 1) k) (h0 := h0) a1
      repeat (first | refine go_pure hM rfl ?_ | (refine go_get (fs := ?_) (v := ?_) hM rfl ?_ ?_ ?_; rotate_left 2; assumption; rfl) | refine go_ldc hM rfl ?_)
      have a2' : aDp (fnd A t W P (k + 1) k) (W k) = 0 := by
        have : aDp A (W k) = 0 := by omega
        exact this
      rw [a2']
      refine go_if_ne hM rfl (by omega) (fun hc => absurd rfl hc) (fun hc => ?_)
      exact go_vret hM rfl rfl ⟨rfl, rfl, rfl⟩
    | succ n ih =>
      intro k x y hkn
      obtain ⟨a1, a2, a3, a4⟩ := hk k (by omega)
      rw [if_neg (by omega)] at a4
      have rc := gLu_r (aWf A (W k)) b (aEn A (W k)).toNat
      have ren := (ok.2.2 (W k) a1).1
      have rrm := ok.rm (W k)
      have ok' : aOk (fnd A t W P k x) := ok
      have k1 := hp_tr (A := fnd A t W P k x) (h0 := h0) ht
      have k2 := hp_wy (A := fnd A t W P k x) (h0 := h0) ht
      have k4 := hp_nd (A := fnd A t W P k x) (h0 := h0) a1
      repeat (first | refine go_pure hM rfl ?_ | (refine go_get (fs := ?_) (v := ?_) hM rfl ?_ ?_ ?_; rotate_left 2; assumption; rfl) | refine go_ldc hM rfl ?_)
      refine go_icmp_ge hM rfl (by omega) (by omega) (fun hc => absurd hc (by omega)) (fun hc => ?_)
      repeat (first | refine go_pure hM rfl ?_ | (refine go_get (fs := ?_) (v := ?_) hM rfl ?_ ?_ ?_; rotate_left 2; assumption; rfl) | refine go_ldc hM rfl ?_)
      refine go_cV hM rfl rfl rfl k4 rfl (p_lastUpTo ok' a1 rb a3) rfl ?_
      repeat (first | refine go_pure hM rfl ?_ | (refine go_get (fs := ?_) (v := ?_) hM rfl ?_ ?_ ?_; rotate_left 2; assumption; rfl) | refine go_ldc hM rfl ?_)
      refine go_aast hM rfl k2 rfl k4 rfl (by omega) (by omega) (by omega) ?_
      have e1 : (k : Int).toNat = k := by omega
      have e2 : sWy (fnd A t W P k x) t (gF (aWy (fnd A t W P k x) t) k (W k)) = fG A t (mix W (aWy A t) (k + 1)) (mix P (aPl A t) k) x := by
        unfold fnd
        rw [fG_wy, mix_s, sWy_fG]
      rw [e1, eRf_set (by omega), up_wy ht, e2]
      have j1 := hp_tr (A := fG A t (mix W (aWy A t) (k + 1)) (mix P (aPl A t) k) x) (h0 := h0) ht
      have j3 := hp_pl (A := fG A t (mix W (aWy A t) (k + 1)) (mix P (aPl A t) k) x) (h0 := h0) ht
      repeat (first | refine go_pure hM rfl ?_ | (refine go_get (fs := ?_) (v := ?_) hM rfl ?_ ?_ ?_; rotate_left 2; assumption; rfl) | refine go_ldc hM rfl ?_)
      refine go_iast hM rfl j3 (by omega) (by omega) (by omega) ?_
      have e3 : ∀ c, sPl (fG A t (mix W (aWy A t) (k + 1)) (mix P (aPl A t) k) x) t (gF (aPl (fG A t (mix W (aWy A t) (k + 1)) (mix P (aPl A t) k) x) t) k c) = fG A t (mix W (aWy A t) (k + 1)) (gF (mix P (aPl A t) k) k c) x := fun c => by
        rw [fG_pl, sPl_fG]
      rw [e1, up_pl ht, e3]
      generalize hcc : gLu (aWf (fnd A t W P k x) (W k)) b (aEn (fnd A t W P k x) (W k)).toNat = c at rc
      have hc9 : gLu (aWf A (W k)) b (aEn A (W k)).toNat = c := hcc
      rw [hc9] at a4 rc
      have i1 := hp_tr (A := fG A t (mix W (aWy A t) (k + 1)) (gF (mix P (aPl A t) k) k c) x) (h0 := h0) ht
      repeat (first | refine go_pure hM rfl ?_ | (refine go_get (fs := ?_) (v := ?_) hM rfl ?_ ?_ ?_; rotate_left 2; assumption; rfl) | refine go_ldc hM rfl ?_)
      refine go_put hM rfl i1 rfl rfl ?_
      have e5 : hpx (sTr (fG A t (mix W (aWy A t) (k + 1)) (gF (mix P (aPl A t) k) k c) x) t (aRu (fG A t (mix W (aWy A t) (k + 1)) (gF (mix P (aPl A t) k) k c) x) t) (aBl (fG A t (mix W (aWy A t) (k + 1)) (gF (mix P (aPl A t) k) k c) x) t) (aMa (fG A t (mix W (aWy A t) (k + 1)) (gF (mix P (aPl A t) k) k c) x) t) (aMw (fG A t (mix W (aWy A t) (k + 1)) (gF (mix P (aPl A t) k) k c) x) t) (aLb (fG A t (mix W (aWy A t) (k + 1)) (gF (mix P (aPl A t) k) k c) x) t) k) h0 = hpx (fG A t (mix W (aWy A t) (k + 1)) (gF (mix P (aPl A t) k) k c) k) h0 := by
        have := sLf_fG A t (mix W (aWy A t) (k + 1)) (gF (mix P (aPl A t) k) k c) x k
        unfold sLf at this
        rw [this]
      rw [up_tr ht, e5]
      have i4 := hp_nd (A := fG A t (mix W (aWy A t) (k + 1)) (gF (mix P (aPl A t) k) k c) k) (h0 := h0) a1
      have i5 := hp_tr (A := fG A t (mix W (aWy A t) (k + 1)) (gF (mix P (aPl A t) k) k c) k) (h0 := h0) ht
      have i6 := hp_pl (A := fG A t (mix W (aWy A t) (k + 1)) (gF (mix P (aPl A t) k) k c) k) (h0 := h0) ht
      repeat (first | refine go_pure hM rfl ?_ | (refine go_get (fs := ?_) (v := ?_) hM rfl ?_ ?_ ?_; rotate_left 2; assumption; rfl) | refine go_ldc hM rfl ?_)
      have a2' : aDp (fG A t (mix W (aWy A t) (k + 1)) (gF (mix P (aPl A t) k) k c) k) (W k) = (d : Int) - k := a2
      rw [a2']
      refine go_if_ne hM rfl (by omega) (fun hc => ?_) (fun hc => absurd hc (by omega))
      repeat (first | refine go_pure hM rfl ?_ | (refine go_get (fs := ?_) (v := ?_) hM rfl ?_ ?_ ?_; rotate_left 2; assumption; rfl) | refine go_ldc hM rfl ?_)
      refine go_max hM rfl (by omega) (by omega) rfl ?_
      refine go_iast hM rfl i6 (by omega) (by omega) (by omega) ?_
      have e6 : (if (0 : Int) < c then c else 0) = P k := by
        rw [a4]
        split <;> split <;> omega
      have e7 : sPl (fG A t (mix W (aWy A t) (k + 1)) (gF (mix P (aPl A t) k) k c) k) t (gF (aPl (fG A t (mix W (aWy A t) (k + 1)) (gF (mix P (aPl A t) k) k c) k) t) k (P k)) = fnd A t W P (k + 1) k := by
        rw [fG_pl, sPl_fG, gF_uu, mix_s]
        rfl
      rw [e6, e1, up_pl ht, e7]
      have i7 := hp_tr (A := fnd A t W P (k + 1) k) (h0 := h0) ht
      have i8 := hp_pl (A := fnd A t W P (k + 1) k) (h0 := h0) ht
      have i9 := hp_nd (A := fnd A t W P (k + 1) k) (h0 := h0) a1
      repeat (first | refine go_pure hM rfl ?_ | (refine go_get (fs := ?_) (v := ?_) hM rfl ?_ ?_ ?_; rotate_left 2; assumption; rfl) | refine go_ldc hM rfl ?_)
      refine go_iald hM rfl i8 (by omega) (by omega) (by omega) ?_
      have e8 : aPl (fnd A t W P (k + 1) k) t k = P k := by
        show aPl (fG A t (mix W (aWy A t) (k + 1)) (mix P (aPl A t) (k + 1)) k) t k = P k
        rw [fG_pl]
        exact if_pos (by omega)
      rw [e1, e8]
      have rp : -2147483648 ≤ P k ∧ P k ≤ 2147483647 := by
        rw [a4]
        split <;> omega
      refine go_cV hM rfl rfl rfl i9 rfl (p_belowAt (A := fnd A t W P (k + 1) k) ok a1 rp) rfl ?_
      obtain ⟨b1, b2⟩ := hn k (by omega)
      rw [show gWd (aWf (fnd A t W P (k + 1) k) (W k)) (aEn (fnd A t W P (k + 1) k) (W k)) (P k) 1 = W (k + 1) from b1]
      refine go_cV hM rfl rfl rfl (hp_po (A := fnd A t W P (k + 1) k)) rfl (c_Pool_node (A := fnd A t W P (k + 1) k) (by omega)) rfl ?_
      have e9 : ((W (k + 1) : Nat) : Int).toNat = W (k + 1) := by omega
      rw [e9]
      repeat (first | exact ih (k + 1) k _ (by omega) | refine go_pure hM rfl ?_ | (refine go_get (fs := ?_) (v := ?_) hM rfl ?_ ?_ ?_; rotate_left 2; assumption; rfl) | refine go_ldc hM rfl ?_)
  have k1 := hp_tr (A := A) (h0 := h0) ht
  have l0 := loop d 0 (aLf A t) none (by omega)
  rw [fnd_0, hW0] at l0
  repeat (first | exact l0 | refine go_pure hM rfl ?_ | (refine go_get (fs := ?_) (v := ?_) hM rfl ?_ ?_ ?_; rotate_left 2; assumption; rfl) | refine go_ldc hM rfl ?_)
end
