/-! Tree.removeRun, Tree.settle -/
/-- the entry of the run goes; m empty blocks above it are given back, and their entries go -/
def rmS (A : cA) (t l : Nat) : Nat → cA
  | 0 => remA A (aWy A t l) (aPl A t l)
  | m + 1 => remA (gbA (rmS A t l m) t (aWy A t (l - m))) (aWy A t (l - m - 1)) (aPl A t (l - m - 1))
def rmD (D : cA) (t : Nat) : cA := if aEn D (256 + t) = 0 then sNd D (256 + t) (aTk D (256 + t)) 0 (aEn D (256 + t)) else D
def rmE (D : cA) (t k : Nat) : cA := sTr (rfA (rmD D t) t k) t (aRu D t - 1) (aBl D t) (aMa D t) (aMw D t) (aLb D t) (aLf D t)
def RmOk (A : cA) (t l m : Nat) : Prop := aEn (rmS A t l m) (aWy A t (l - m)) = 0 ∧ aTk (rmS A t l m) (aWy A t (l - m)) = 1 ∧ 0 ≤ aPl A t (l - m - 1) ∧ aPl A t (l - m - 1) < aEn (gbA (rmS A t l m) t (aWy A t (l - m))) (aWy A t (l - m - 1))
section
variable {G : gG} {N : Option Nat} {A B : cA} {h0 : gH} {t l c : Nat}
theorem rms_same : ∀ m, aWy (rmS A t l m) = aWy A ∧ aPl (rmS A t l m) = aPl A ∧ aLf (rmS A t l m) t = aLf A t := by
  intro m
  induction m with
  | zero => exact ⟨rfl, rfl, rfl⟩
  | succ m ih =>
    refine ⟨ih.1, ih.2.1, ?_⟩
    show gF (aLf (rmS A t l m)) t (aLf (rmS A t l m) t) t = _
    rw [gF_s, ih.2.2]
set_option maxHeartbeats 4000000 in
theorem c_removeRun (ok : aOk A) (ht : t < 4) (hl : aLf A t = (l : Int)) (hl6 : l < 6) (hwy : ∀ k, k ≤ l → aWy A t k < 260) (hp : 0 ≤ aPl A t l ∧ aPl A t l < aEn A (aWy A t l)) (hcl : c ≤ l) (hm : ∀ m, m < c → RmOk A t l m) (he : c = l ∨ aEn (rmS A t l c) (aWy A t (l - c)) ≠ 0) (hr : ∀ k, k < l - c → 0 ≤ aPl A t k ∧ aPl A t k < aEn (rmS A t l c) (aWy A t k)) : Rd G m_Tree_removeRun [vR (517 + 6 * t)] N (hpx A h0) none none (hpx (rmE (rmS A t l c) t (l - c)) h0) := by
  refine Rn.of rfl rfl rfl ?_
  have hM := ok_Tree_removeRun
  have k1 := hp_tr (A := A) (h0 := h0) ht
  have k2 := hp_wy (A := A) (h0 := h0) ht
  have k3 := hp_pl (A := A) (h0 := h0) ht
  have w1 := hwy l (Nat.le_refl l)
  have e1 : (l : Int).toNat = l := by omega
  have oks : ∀ m, m ≤ c → aOk (rmS A t l m) := by
    intro m
    induction m with
    | zero => intro _; exact aOk_rem ok w1 (by omega)
    | succ m ih =>
      intro h9
      obtain ⟨q1, q2, q3, q4⟩ := hm m (by omega)
      exact aOk_rem (aOk_gb (ih (by omega)) (hwy _ (by omega))) (hwy _ (by omega)) (by omega)
  have loop : ∀ (q m : Nat), q + m = c → Go G m_Tree_removeRun (gFin G (gEq none none (hpx (rmE (rmS A t l c) t (l - c)) h0)) gNo) 20 [some (vR (517 + 6 * t)), some (vI ((l - m : Nat) : Int))] [] none (hpx (rmS A t l m) h0) 0 0 := by
    intro q
    induction q with
    | zero =>
      intro m hmc
      have hmc : m = c := by omega
      subst hmc
      have okD := oks m (Nat.le_refl m)
      obtain ⟨g1, g2, g3⟩ := rms_same (A := A) (t := t) (l := l) m
      have fin : Go G m_Tree_removeRun (gFin G (gEq none none (hpx (rmE (rmS A t l m) t (l - m)) h0)) gNo) 67 [some (vR (517 + 6 * t)), some (vI ((l - m : Nat) : Int))] [] none (hpx (rmS A t l m) h0) 0 0 := by
        generalize hD : rmS A t l m = D at okD g1 g2 g3 hr
        have hrt : 256 + t < 260 := by omega
        have i1 := hp_tr (A := D) (h0 := h0) ht
        have i2 := hp_nd (A := D) (h0 := h0) hrt
        have rD := (okD.2.2 _ hrt).1
        have rmD9 := okD.rm (256 + t)
        have tail : ∀ D1 : cA, D1 = rmD D t → aOk D1 → aWy D1 = aWy A → aPl D1 = aPl A → aEn D1 = aEn D → aRu D1 = aRu D → aBl D1 = aBl D → aMa D1 = aMa D → aMw D1 = aMw D → aLb D1 = aLb D → aLf D1 = aLf D → Go G m_Tree_removeRun (gFin G (gEq none none (hpx (rmE D t (l - m)) h0)) gNo) 85 [some (vR (517 + 6 * t)), some (vI ((l - m : Nat) : Int))] [] none (hpx D1 h0) 0 0 := by
          intro D1 hD1 ok1 y1 y2 y3 y4 y5 y6 y7 y8 y9
          have j1 := hp_tr (A := D1) (h0 := h0) ht
          repeat (first | refine go_pure hM rfl ?_ | (refine go_get (fs := ?_) (v := ?_) hM rfl ?_ ?_ ?_; rotate_left 2; assumption; rfl) | refine go_ldc hM rfl ?_)
          refine go_cV hM rfl rfl rfl j1 rfl (c_refreshFirsts (A := D1) (l := l - m) ht (by omega) ok1 (fun k hk => by rw [y1]; exact hwy k (by omega)) (fun k hk => by rw [y1, y2, y3]; exact hr k hk)) rfl ?_
          have m1 := hp_tr (A := rfA D1 t (l - m)) (h0 := h0) ht
          obtain ⟨f1, f2, f3, f4, f5, f6, -⟩ := rf_ru (t := t) (l - m) D1
          repeat (first | refine go_pure hM rfl ?_ | (refine go_get (fs := ?_) (v := ?_) hM rfl ?_ ?_ ?_; rotate_left 2; assumption; rfl) | refine go_ldc hM rfl ?_)
          refine go_put hM rfl m1 rfl rfl ?_
          rw [up_tr ht, f1, f2, f3, f4, f5, f6, y4, y5, y6, y7, y8, y9]
          refine go_vret hM rfl rfl ⟨rfl, rfl, ?_⟩
          rw [hD1]
          rfl
        repeat (first | refine go_pure hM rfl ?_ | (refine go_get (fs := ?_) (v := ?_) hM rfl ?_ ?_ ?_; rotate_left 2; assumption; rfl) | refine go_ldc hM rfl ?_)
        by_cases hz : aEn D (256 + t) = 0
        · refine go_if_ne hM rfl (by omega) (fun hc => absurd hz hc) (fun _ => ?_)
          repeat (first | refine go_pure hM rfl ?_ | (refine go_get (fs := ?_) (v := ?_) hM rfl ?_ ?_ ?_; rotate_left 2; assumption; rfl) | refine go_ldc hM rfl ?_)
          refine go_put hM rfl i2 rfl rfl ?_
          rw [up_nd hrt]
          refine tail _ ?_ (aOk_sNd okD (by omega) (by omega)) g1 g2 ?_ rfl rfl rfl rfl rfl rfl
          · unfold rmD
            rw [if_pos hz]
          · show gF (aEn D) (256 + t) (aEn D (256 + t)) = aEn D
            exact gF_same _ _
        · refine go_if_ne hM rfl (by omega) (fun _ => ?_) (fun hc => absurd hc hz)
          exact tail D (by unfold rmD; rw [if_neg hz]) okD g1 g2 rfl rfl rfl rfl rfl rfl rfl
      have j1 := hp_tr (A := rmS A t l m) (h0 := h0) ht
      have j2 := hp_wy (A := rmS A t l m) (h0 := h0) ht
      rw [g1] at j2
      by_cases hz : m = l
      · repeat (first | refine go_pure hM rfl ?_ | (refine go_get (fs := ?_) (v := ?_) hM rfl ?_ ?_ ?_; rotate_left 2; assumption; rfl) | refine go_ldc hM rfl ?_)
        refine go_if_le hM rfl (by omega) (fun _ => ?_) (fun hc => absurd hc (by omega))
        exact fin
      · have hne := he.resolve_left hz
        have wm := hwy (l - m) (by omega)
        have j4 := hp_nd (A := rmS A t l m) (h0 := h0) wm
        have rE := (okD.2.2 _ wm).1
        have rR := okD.rm (aWy A t (l - m))
        have e2 : ((l - m : Nat) : Int).toNat = l - m := by omega
        repeat (first | refine go_pure hM rfl ?_ | (refine go_get (fs := ?_) (v := ?_) hM rfl ?_ ?_ ?_; rotate_left 2; assumption; rfl) | refine go_ldc hM rfl ?_)
        refine go_if_le hM rfl (by omega) (fun hc => absurd hc (by omega)) (fun _ => ?_)
        repeat (first | refine go_pure hM rfl ?_ | (refine go_get (fs := ?_) (v := ?_) hM rfl ?_ ?_ ?_; rotate_left 2; assumption; rfl) | refine go_ldc hM rfl ?_)
        refine go_aaldS (r := oA (aWy A t (l - m))) hM rfl j2 rfl (by omega) (by omega) (by omega) (by rw [e2]; exact if_pos (by omega)) ?_
        repeat (first | refine go_pure hM rfl ?_ | (refine go_get (fs := ?_) (v := ?_) hM rfl ?_ ?_ ?_; rotate_left 2; assumption; rfl) | refine go_ldc hM rfl ?_)
        refine go_if_ne hM rfl (by omega) (fun _ => ?_) (fun hc => absurd hc hne)
        exact fin
    | succ q ih =>
      intro m hmc
      obtain ⟨q1, q2, q3, q4⟩ := hm m (by omega)
      have okD := oks m (by omega)
      obtain ⟨g1, g2, g3⟩ := rms_same (A := A) (t := t) (l := l) m
      have j1 := hp_tr (A := rmS A t l m) (h0 := h0) ht
      have j2 := hp_wy (A := rmS A t l m) (h0 := h0) ht
      rw [g1] at j2
      have wm := hwy (l - m) (by omega)
      have wm1 := hwy (l - m - 1) (by omega)
      have j4 := hp_nd (A := rmS A t l m) (h0 := h0) wm
      have e2 : ((l - m : Nat) : Int).toNat = l - m := by omega
      repeat (first | refine go_pure hM rfl ?_ | (refine go_get (fs := ?_) (v := ?_) hM rfl ?_ ?_ ?_; rotate_left 2; assumption; rfl) | refine go_ldc hM rfl ?_)
      refine go_if_le hM rfl (by omega) (fun hc => absurd hc (by omega)) (fun _ => ?_)
      repeat (first | refine go_pure hM rfl ?_ | (refine go_get (fs := ?_) (v := ?_) hM rfl ?_ ?_ ?_; rotate_left 2; assumption; rfl) | refine go_ldc hM rfl ?_)
      refine go_aaldS (r := oA (aWy A t (l - m))) hM rfl j2 rfl (by omega) (by omega) (by omega) (by rw [e2]; exact if_pos (by omega)) ?_
      repeat (first | refine go_pure hM rfl ?_ | (refine go_get (fs := ?_) (v := ?_) hM rfl ?_ ?_ ?_; rotate_left 2; assumption; rfl) | refine go_ldc hM rfl ?_)
      rw [q1]
      refine go_if_ne hM rfl (by omega) (fun hc => absurd rfl hc) (fun _ => ?_)
      repeat (first | refine go_pure hM rfl ?_ | (refine go_get (fs := ?_) (v := ?_) hM rfl ?_ ?_ ?_; rotate_left 2; assumption; rfl) | refine go_ldc hM rfl ?_)
      refine go_aaldS (r := oA (aWy A t (l - m))) hM rfl j2 rfl (by omega) (by omega) (by omega) (by rw [e2]; exact if_pos (by omega)) ?_
      refine go_cV hM rfl rfl rfl j1 rfl (c_Tree_giveBack okD ht wm q2) rfl ?_
      have okG : aOk (gbA (rmS A t l m) t (aWy A t (l - m))) := aOk_gb okD wm
      have i1 := hp_tr (A := gbA (rmS A t l m) t (aWy A t (l - m))) (h0 := h0) ht
      have i2 : hpx (gbA (rmS A t l m) t (aWy A t (l - m))) h0 (520 + 6 * t) = some (eRf (aWy A t)) := by
        rw [← g1]
        exact hp_wy ht
      have i3 : hpx (gbA (rmS A t l m) t (aWy A t (l - m))) h0 (521 + 6 * t) = some (gIA 6 (aPl A t)) := by
        rw [← g2]
        exact hp_pl ht
      refine go_pure hM rfl ?_
      have e4 : ((l - m : Nat) : Int) + (-1) = ((l - (m + 1) : Nat) : Int) := by omega
      have e5 : ((l - (m + 1) : Nat) : Int).toNat = l - m - 1 := by omega
      rw [e4]
      repeat (first | refine go_pure hM rfl ?_ | (refine go_get (fs := ?_) (v := ?_) hM rfl ?_ ?_ ?_; rotate_left 2; assumption; rfl) | refine go_ldc hM rfl ?_)
      refine go_aaldS (r := oA (aWy A t (l - m - 1))) hM rfl i2 rfl (by omega) (by omega) (by omega) (by rw [e5]; exact if_pos (by omega)) ?_
      repeat (first | refine go_pure hM rfl ?_ | (refine go_get (fs := ?_) (v := ?_) hM rfl ?_ ?_ ?_; rotate_left 2; assumption; rfl) | refine go_ldc hM rfl ?_)
      refine go_iald hM rfl i3 (by omega) (by omega) (by omega) ?_
      rw [e5]
      refine go_cV hM rfl rfl rfl (hp_nd wm1) rfl (p_remove okG wm1 ⟨q3, q4⟩) rfl ?_
      repeat (first | exact ih (m + 1) (by omega) | refine go_pure hM rfl ?_ | (refine go_get (fs := ?_) (v := ?_) hM rfl ?_ ?_ ?_; rotate_left 2; assumption; rfl) | refine go_ldc hM rfl ?_)
  have l0 := loop c 0 (by omega)
  rw [Nat.sub_zero] at l0
  refine go_pure hM rfl ?_
  refine go_get hM rfl k1 rfl ?_
  rw [hl]
  repeat (first | refine go_pure hM rfl ?_ | (refine go_get (fs := ?_) (v := ?_) hM rfl ?_ ?_ ?_; rotate_left 2; assumption; rfl) | refine go_ldc hM rfl ?_)
  refine go_aaldS (r := oA (aWy A t l)) hM rfl k2 rfl (by omega) (by omega) (by omega) (by rw [e1]; exact if_pos hl6) ?_
  repeat (first | refine go_pure hM rfl ?_ | (refine go_get (fs := ?_) (v := ?_) hM rfl ?_ ?_ ?_; rotate_left 2; assumption; rfl) | refine go_ldc hM rfl ?_)
  refine go_iald hM rfl k3 (by omega) (by omega) (by omega) ?_
  rw [e1]
  refine go_cV hM rfl rfl rfl (hp_nd w1) rfl (p_remove ok w1 hp) rfl ?_
  repeat (first | exact l0 | refine go_pure hM rfl ?_ | (refine go_get (fs := ?_) (v := ?_) hM rfl ?_ ?_ ?_; rotate_left 2; assumption; rfl) | refine go_ldc hM rfl ?_)
/-- the one block below the root -/
def stI (A : cA) (t : Nat) : Nat := (gWd (aWf A (256 + t)) (aEn A (256 + t)) 0 1).toNat
def stS (A : cA) (t : Nat) : Nat → cA
  | 0 => A
  | m + 1 => gbA (mvA (stS A t m) (stI (stS A t m) t) 0 (256 + t)) t (stI (stS A t m) t)
def StOk (A : cA) (t : Nat) : Prop := aEn A (256 + t) = 1 ∧ stI A t < 256 ∧ aEn A (stI A t) ≤ 4 ∧ aTk A (stI A t) = 1
set_option maxHeartbeats 4000000 in
theorem c_settle {d : Nat} (ok : aOk A) (ht : t < 4) (hd : aDp A (256 + t) = (d : Int)) (hd5 : d ≤ 5) (hc : c ≤ d) (hm : ∀ m, m < c → StOk (stS A t m) t) (he : c = d ∨ aEn (stS A t c) (256 + t) ≠ 1 ∨ (aEn (stS A t c) (256 + t) = 1 ∧ stI (stS A t c) t < 256 ∧ 4 < aEn (stS A t c) (stI (stS A t c) t))) : Rd G m_Tree_settle [vR (517 + 6 * t)] none (hpx A h0) none none (hpx (stS A t c) h0) := by
  refine Rn.of rfl rfl rfl ?_
  have hM := ok_Tree_settle
  have hrt : 256 + t < 260 := by omega
  have oks : ∀ m, m ≤ c → aOk (stS A t m) := by
    intro m
    induction m with
    | zero => intro _; exact ok
    | succ m ih =>
      intro h9
      obtain ⟨q1, q2, q3, q4⟩ := hm m (by omega)
      have o1 := ih (by omega)
      have r1 := (o1.2.2 (stI (stS A t m) t) (by omega)).1
      have r2 := o1.rm (256 + t)
      exact aOk_gb (aOk_mv o1 (by omega) hrt (by omega) (by omega)) (by omega)
  have nxt : ∀ B : cA, aOk B → aEn B (256 + t) = 1 → stI B t < 256 → gWd (aWf B (256 + t)) (aEn B (256 + t)) 0 1 = (stI B t : Int) := by
    intro B o1 h1 h2
    have := o1.wd hrt 0 1
    unfold stI
    omega
  have rm4 : ∀ B : cA, aRm B (256 + t) = 4 := fun B => if_neg (by omega)
  have loop : ∀ (q m : Nat) (y : Option gV), q + m = c → Go G m_Tree_settle (gFin G (gEq none none (hpx (stS A t c) h0)) gNo) 8 [some (vR (517 + 6 * t)), some (vI ((d - m : Nat) : Int)), y] [] none (hpx (stS A t m) h0) 0 0 := by
    intro q
    induction q with
    | zero =>
      intro m y hmc
      have hmc : m = c := by omega
      subst hmc
      have o1 := oks m (Nat.le_refl m)
      generalize stS A t m = B at o1 he
      have r1 := (o1.2.2 _ hrt).1
      have r2 := o1.rm (256 + t)
      have k1 := hp_tr (A := B) (h0 := h0) ht
      have k2 := hp_nd (A := B) (h0 := h0) hrt
      rcases he with he | he | ⟨h1, h2, h3⟩
      · repeat (first | refine go_pure hM rfl ?_ | (refine go_get (fs := ?_) (v := ?_) hM rfl ?_ ?_ ?_; rotate_left 2; assumption; rfl) | refine go_ldc hM rfl ?_)
        refine go_if_le hM rfl (by omega) (fun _ => ?_) (fun hc => absurd hc (by omega))
        exact go_vret hM rfl rfl ⟨rfl, rfl, rfl⟩
      · by_cases hz : d - m = 0
        · repeat (first | refine go_pure hM rfl ?_ | (refine go_get (fs := ?_) (v := ?_) hM rfl ?_ ?_ ?_; rotate_left 2; assumption; rfl) | refine go_ldc hM rfl ?_)
          refine go_if_le hM rfl (by omega) (fun _ => ?_) (fun hc => absurd hc (by omega))
          exact go_vret hM rfl rfl ⟨rfl, rfl, rfl⟩
        · repeat (first | refine go_pure hM rfl ?_ | (refine go_get (fs := ?_) (v := ?_) hM rfl ?_ ?_ ?_; rotate_left 2; assumption; rfl) | refine go_ldc hM rfl ?_)
          refine go_if_le hM rfl (by omega) (fun hc => absurd hc (by omega)) (fun _ => ?_)
          repeat (first | refine go_pure hM rfl ?_ | (refine go_get (fs := ?_) (v := ?_) hM rfl ?_ ?_ ?_; rotate_left 2; assumption; rfl) | refine go_ldc hM rfl ?_)
          refine go_icmp_ne hM rfl (by omega) (by omega) (fun _ => ?_) (fun hc => absurd hc he)
          exact go_vret hM rfl rfl ⟨rfl, rfl, rfl⟩
      · by_cases hz : d - m = 0
        · repeat (first | refine go_pure hM rfl ?_ | (refine go_get (fs := ?_) (v := ?_) hM rfl ?_ ?_ ?_; rotate_left 2; assumption; rfl) | refine go_ldc hM rfl ?_)
          refine go_if_le hM rfl (by omega) (fun _ => ?_) (fun hc => absurd hc (by omega))
          exact go_vret hM rfl rfl ⟨rfl, rfl, rfl⟩
        · have k4 := hp_nd (A := B) (h0 := h0) (i := stI B t) (by omega)
          have r3 := (o1.2.2 (stI B t) (by omega)).1
          have r4 := o1.rm (stI B t)
          repeat (first | refine go_pure hM rfl ?_ | (refine go_get (fs := ?_) (v := ?_) hM rfl ?_ ?_ ?_; rotate_left 2; assumption; rfl) | refine go_ldc hM rfl ?_)
          refine go_if_le hM rfl (by omega) (fun hc => absurd hc (by omega)) (fun _ => ?_)
          repeat (first | refine go_pure hM rfl ?_ | (refine go_get (fs := ?_) (v := ?_) hM rfl ?_ ?_ ?_; rotate_left 2; assumption; rfl) | refine go_ldc hM rfl ?_)
          refine go_icmp_ne hM rfl (by omega) (by omega) (fun hc => absurd h1 hc) (fun _ => ?_)
          repeat (first | refine go_pure hM rfl ?_ | (refine go_get (fs := ?_) (v := ?_) hM rfl ?_ ?_ ?_; rotate_left 2; assumption; rfl) | refine go_ldc hM rfl ?_)
          refine go_cV hM rfl rfl rfl k2 rfl (p_belowAt o1 hrt (by omega)) rfl ?_
          rw [nxt B o1 h1 h2]
          refine go_cV hM rfl rfl rfl (hp_po (A := B)) rfl (c_Pool_node (A := B) (by omega)) rfl ?_
          have e9 : ((stI B t : Nat) : Int).toNat = stI B t := by omega
          rw [e9]
          repeat (first | refine go_pure hM rfl ?_ | (refine go_get (fs := ?_) (v := ?_) hM rfl ?_ ?_ ?_; rotate_left 2; assumption; rfl) | refine go_ldc hM rfl ?_)
          rw [rm4 B]
          refine go_icmp_le hM rfl (by omega) (by omega) (fun hc => absurd hc (by omega)) (fun _ => ?_)
          exact go_vret hM rfl rfl ⟨rfl, rfl, rfl⟩
    | succ q ih =>
      intro m y hmc
      obtain ⟨h1, h2, h3, h4⟩ := hm m (by omega)
      have o1 := oks m (by omega)
      have ihm := fun y => ih (m + 1) y (by omega)
      have e7 : stS A t (m + 1) = gbA (mvA (stS A t m) (stI (stS A t m) t) 0 (256 + t)) t (stI (stS A t m) t) := rfl
      rw [e7] at ihm
      generalize stS A t m = B at o1 h1 h2 h3 h4 ihm
      have r1 := (o1.2.2 _ hrt).1
      have r2 := o1.rm (256 + t)
      have r3 := (o1.2.2 (stI B t) (by omega)).1
      have r4 := o1.rm (stI B t)
      have k1 := hp_tr (A := B) (h0 := h0) ht
      have k2 := hp_nd (A := B) (h0 := h0) hrt
      have k4 := hp_nd (A := B) (h0 := h0) (i := stI B t) (by omega)
      have okM : aOk (mvA B (stI B t) 0 (256 + t)) := aOk_mv o1 (by omega) hrt (by omega) (by omega)
      have tkM : aTk (mvA B (stI B t) 0 (256 + t)) (stI B t) = 1 := by
        show gF (gF (aTk B) (256 + t) (aTk B (256 + t))) (stI B t) (aTk B (stI B t)) (stI B t) = 1
        rw [gF_s, h4]
      repeat (first | refine go_pure hM rfl ?_ | (refine go_get (fs := ?_) (v := ?_) hM rfl ?_ ?_ ?_; rotate_left 2; assumption; rfl) | refine go_ldc hM rfl ?_)
      refine go_if_le hM rfl (by omega) (fun hc => absurd hc (by omega)) (fun _ => ?_)
      repeat (first | refine go_pure hM rfl ?_ | (refine go_get (fs := ?_) (v := ?_) hM rfl ?_ ?_ ?_; rotate_left 2; assumption; rfl) | refine go_ldc hM rfl ?_)
      refine go_icmp_ne hM rfl (by omega) (by omega) (fun hc => absurd h1 hc) (fun _ => ?_)
      repeat (first | refine go_pure hM rfl ?_ | (refine go_get (fs := ?_) (v := ?_) hM rfl ?_ ?_ ?_; rotate_left 2; assumption; rfl) | refine go_ldc hM rfl ?_)
      refine go_cV hM rfl rfl rfl k2 rfl (p_belowAt o1 hrt (by omega)) rfl ?_
      rw [nxt B o1 h1 h2]
      refine go_cV hM rfl rfl rfl (hp_po (A := B)) rfl (c_Pool_node (A := B) (by omega)) rfl ?_
      have e9 : ((stI B t : Nat) : Int).toNat = stI B t := by omega
      rw [e9]
      repeat (first | refine go_pure hM rfl ?_ | (refine go_get (fs := ?_) (v := ?_) hM rfl ?_ ?_ ?_; rotate_left 2; assumption; rfl) | refine go_ldc hM rfl ?_)
      rw [rm4 B]
      refine go_icmp_le hM rfl (by omega) (by omega) (fun _ => ?_) (fun hc => absurd hc (by omega))
      repeat (first | refine go_pure hM rfl ?_ | (refine go_get (fs := ?_) (v := ?_) hM rfl ?_ ?_ ?_; rotate_left 2; assumption; rfl) | refine go_ldc hM rfl ?_)
      refine go_cV hM rfl rfl rfl k4 rfl (p_moveTail o1 (by omega : stI B t < 260) hrt (by omega) (by omega) (by omega)) rfl ?_
      repeat (first | refine go_pure hM rfl ?_ | (refine go_get (fs := ?_) (v := ?_) hM rfl ?_ ?_ ?_; rotate_left 2; assumption; rfl) | refine go_ldc hM rfl ?_)
      refine go_cV hM rfl rfl rfl (hp_tr ht) rfl (c_Tree_giveBack (A := mvA B (stI B t) 0 (256 + t)) okM ht (by omega) tkM) rfl ?_
      refine go_pure hM rfl ?_
      have e4 : ((d - m : Nat) : Int) + (-1) = ((d - (m + 1) : Nat) : Int) := by omega
      rw [e4]
      repeat (first | exact ihm _ | refine go_pure hM rfl ?_ | (refine go_get (fs := ?_) (v := ?_) hM rfl ?_ ?_ ?_; rotate_left 2; assumption; rfl) | refine go_ldc hM rfl ?_)
  have k1 := hp_tr (A := A) (h0 := h0) ht
  have k2 := hp_nd (A := A) (h0 := h0) hrt
  have l0 := loop c 0 none (by omega)
  rw [Nat.sub_zero] at l0
  refine go_pure hM rfl ?_
  refine go_get hM rfl k1 rfl ?_
  refine go_get hM rfl k2 rfl ?_
  rw [hd]
  repeat (first | exact l0 | refine go_pure hM rfl ?_ | (refine go_get (fs := ?_) (v := ?_) hM rfl ?_ ?_ ?_; rotate_left 2; assumption; rfl) | refine go_ldc hM rfl ?_)
end
