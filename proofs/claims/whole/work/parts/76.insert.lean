/-! insertRun on the model -/
def lfF (T : Nat → Int) : Nat → Nat → Nat
  | 0, k => k
  | n + 1, k => if T k = 0 then k else lfF T n (k + 1)
/-- the least free block -/
def lf (T : Nat → Int) : Nat := lfF T 255 1
/-- n blocks are taken -/
def tkT (T : Nat → Int) : Nat → Nat → Int
  | 0 => T
  | n + 1 => gF (tkT T n) (lf (tkT T n)) 1
def nbT (T : Nat → Int) (y : Nat) : Nat := lf (tkT T y)
theorem lfF_spec {T : Nat → Int} : ∀ n k, (k ≤ lfF T n k ∧ lfF T n k < k + n ∧ T (lfF T n k) = 0 ∧ ∀ j, k ≤ j → j < lfF T n k → T j ≠ 0) ∨ ∀ j, k ≤ j → j < k + n → T j ≠ 0 := by
  intro n
  induction n with
  | zero => intro k; exact Or.inr (fun j h1 h2 => by omega)
  | succ n ih =>
    intro k
    unfold lfF
    by_cases h : T k = 0
    · rw [if_pos h]
      exact Or.inl ⟨Nat.le_refl _, by omega, h, fun j h1 h2 => by omega⟩
    · rw [if_neg h]
      rcases ih (k + 1) with ⟨a1, a2, a3, a4⟩ | a
      · refine Or.inl ⟨by omega, by omega, a3, fun j h1 h2 => ?_⟩
        by_cases e : j = k
        · rw [e]
          exact h
        · exact a4 j (by omega) h2
      · refine Or.inr (fun j h1 h2 => ?_)
        by_cases e : j = k
        · rw [e]
          exact h
        · exact a j (by omega) (by omega)
theorem cnF_0 {T : Nat → Int} : ∀ n, (∀ j, 1 ≤ j → j < 1 + n → T j ≠ 0) → cnF T n = 0 := by
  intro n
  induction n with
  | zero => intro _; rfl
  | succ n ih =>
    intro h
    show cnF T n + (if T (n + 1) = 0 then 1 else 0) = 0
    rw [ih (fun j h1 h2 => h j h1 (by omega)), if_neg (h (n + 1) (by omega) (by omega))]
    rfl
theorem mRn_of {S T : mS} (h : mRn S) (h1 : mn T = mn S) (h2 : ms T = ms S) (h3 : ml T = ml S) (h4 : mv T = mv S) (h5 : mw T = mw S) : mRn T := by
  unfold mRn
  rw [h1, h2, h3, h4, h5]
  exact h
section
variable {G : gG} {N : Option Nat} {h0 : gH} {A : cA} {SS : Nat → mS} {F : Nat → Prop} {S : mS} {t l tt j : Nat} {i x n v w : Int}
theorem CX.least (hc : CX A SS F) (hle : 1 ≤ aLe A) : leastFree A (lf (aTk A)) := by
  rw [hc.2.2.2.2.2.2] at hle
  rcases lfF_spec (T := aTk A) 255 1 with ⟨a1, a2, a3, a4⟩ | a
  · refine ⟨⟨a1, by unfold lf; omega⟩, a3, fun j j1 j2 => ?_⟩
    have h := a4 j j1 j2
    have j2 : j < lfF (aTk A) 255 1 := j2
    rcases hc.2.2.2.1 j j1 (by omega) with ⟨g, _⟩ | ⟨g, _⟩
    · exact g
    · exact absurd g h
  · rw [cnF_0 255 a] at hle
    omega
theorem CX.takes (hc : CX A SS (fun _ => False)) {c : Nat} (hle : (c : Int) ≤ aLe A) (hcl : c ≤ l + 1) : ∀ n, n ≤ c → CX (tkS A t (fun k => nbT (aTk A) (l - k)) l n) SS (fun x => ∃ y, y < n ∧ x = nbT (aTk A) y) ∧ aTk (tkS A t (fun k => nbT (aTk A) (l - k)) l n) = tkT (aTk A) n ∧ (aMa (tkS A t (fun k => nbT (aTk A) (l - k)) l n) = aMa A ∧ aMw (tkS A t (fun k => nbT (aTk A) (l - k)) l n) = aMw A ∧ aLe (tkS A t (fun k => nbT (aTk A) (l - k)) l n) = aLe A - n) ∧ (∀ m, m < n → leastFree (tkS A t (fun k => nbT (aTk A) (l - k)) l m) (nbT (aTk A) (l - (l - m)))) ∧ (∀ y, y < n → aFs (tkS A t (fun k => nbT (aTk A) (l - k)) l n) t (l - y) = nbT (aTk A) y) ∧ ∀ y y', y < y' → y' < n → nbT (aTk A) y ≠ nbT (aTk A) y' := by
  intro n
  induction n with
  | zero =>
    intro _
    refine ⟨hc.congF (fun x => ⟨fun z => z.elim, fun ⟨y, y1, _⟩ => absurd y1 (Nat.not_lt_zero _)⟩), rfl, ⟨rfl, rfl, by show aLe A = aLe A - 0; omega⟩, fun m h => absurd h (Nat.not_lt_zero _), fun y h => absurd h (Nat.not_lt_zero _), fun y y' _ h => absurd h (Nat.not_lt_zero _)⟩
  | succ n ih =>
    intro hn
    obtain ⟨a1, a2, ⟨a3, a4, a5⟩, a6, a7, a8⟩ := ih (by omega)
    have eb : l - (l - n) = n := by omega
    have lft : leastFree (tkS A t (fun k => nbT (aTk A) (l - k)) l n) (nbT (aTk A) n) := by
      have := a1.least (by rw [a5]; omega)
      rw [a2] at this
      exact this
    have eS : tkS A t (fun k => nbT (aTk A) (l - k)) l (n + 1) = tk1 (tkS A t (fun k => nbT (aTk A) (l - k)) l n) t (l - n) (nbT (aTk A) n) := by
      show tk1 _ t (l - n) (nbT (aTk A) (l - (l - n))) = _
      rw [eb]
    obtain ⟨b1, b2, b3⟩ := a1.take (t := t) (k := l - n) lft
    rw [eS]
    refine ⟨b1.congF (fun x => ?_), ?_, ⟨a3, a4, ?_⟩, fun m hm => ?_, fun y hy => ?_, fun y y' h1 h2 => ?_⟩
    · constructor
      · rintro (⟨y, y1, y2⟩ | y2)
        · exact ⟨y, by omega, y2⟩
        · exact ⟨n, by omega, y2⟩
      · rintro ⟨y, y1, y2⟩
        by_cases e : y = n
        · exact Or.inr (by rw [y2, e])
        · exact Or.inl ⟨y, by omega, y2⟩
    · show gF (aTk (tkS A t (fun k => nbT (aTk A) (l - k)) l n)) (nbT (aTk A) n) 1 = _
      rw [a2]
      rfl
    · show aLe (tkS A t (fun k => nbT (aTk A) (l - k)) l n) - 1 = _
      rw [a5]
      omega
    · by_cases e : m = n
      · rw [e, eb]
        exact lft
      · exact a6 m (by omega)
    · show gF (aFs (tkS A t (fun k => nbT (aTk A) (l - k)) l n)) t (gF (aFs (tkS A t (fun k => nbT (aTk A) (l - k)) l n) t) (l - n) (nbT (aTk A) n)) t (l - y) = _
      rw [gF_s]
      by_cases e : y = n
      · rw [e, gF_s]
      · rw [gF_n (by omega)]
        exact a7 y (by omega)
    · by_cases e : y' = n
      · intro z
        exact b2 ⟨y, by omega, by rw [z, e]⟩
      · exact a8 y y' h1 (by omega)
/-- the level with room, by the model -/
theorem lwr_is (ok : aOk A) (ht : t < 4) (hs : mSh S t (aM A)) (ha : mAb A t S) (hw : WyTo A t S i) (hi : -1 ≤ i ∧ i < mn S) (hfull : ∀ y, y < tt → mc S y (mQ S i.toNat (y + 1)) = if y = md S then 4 else aM A) : ∀ y, y ≤ tt → y ≤ md S + 1 → lwr A t (md S + 1 - y) = lwr A t (md S + 1) := by
  intro y
  induction y with
  | zero => intro _ _; rfl
  | succ y ih =>
    intro h1 h2
    rw [← ih (by omega) (by omega)]
    have e : md S + 1 - y = (md S + 1 - (y + 1)) + 1 := by omega
    rw [e]
    have hp := (pP_b hs hi (k := md S - y) (by omega)).1
    have hW := (hw.2 (md S - y) (by omega)).1
    have e2 : md S + 1 - (y + 1) = md S - y := by omega
    rw [show md S - (md S - y) = y by omega] at hp
    unfold pW at hW
    rw [show md S - (md S - y) = y by omega] at hW
    show _ = if (aRm A (aWy A t (md S + 1 - (y + 1))) : Int) ≤ aEn A (aWy A t (md S + 1 - (y + 1))) then _ else _
    rw [e2, hW, (ha y (by omega) _ hp).2.1, hfull y (by omega), if_pos ?_]
    unfold aRm
    by_cases h9 : y = md S
    · rw [if_pos h9]
      split
      · have hb := hs.2.1
        rename_i hlt
        rw [h9] at hp hlt
        rw [show mQ S i.toNat (md S + 1) = 0 by omega, hs.2.2.1] at hlt
        omega
      · exact Int.le_refl _
    · rw [if_neg h9]
      have := (hs.2.2.2.2.1 y (by omega) _ hp).2.2.2
      rw [if_pos (by omega)]
      exact Int.le_refl _
def enS (S : mS) (t m i : Nat) (nb : Nat → Nat) (tt j : Nat) (x n v w : Int) : mS := if tt ≤ md S then sIn (spM S i ((m + 1) / 2) nb tt tt) j (mQ (spM S i ((m + 1) / 2) nb tt tt) i 1) x n v w else sIn (spM (sGw S t (nb (md S))) i ((m + 1) / 2) nb (md S) (md S)) j (mQ (spM (sGw S t (nb (md S))) i ((m + 1) / 2) nb (md S) (md S)) i 1) x n v w
set_option maxHeartbeats 1000000 in
theorem s_insertRun (hc : CX A SS (fun _ => False)) (ht : t < 4) (hS : SS t = S) (hw : WyTo A t S i) (hi : -1 ≤ i ∧ i < mn S) (hjj : (j : Int) = i + 1) (htt : tt ≤ md S + 1) (hfull : ∀ y, y < tt → mc S y (mQ S i.toNat (y + 1)) = if y = md S then 4 else aM A) (hroom : tt ≤ md S → mc S tt (mQ S i.toNat (tt + 1)) < if tt = md S then 4 else aM A) (hd : tt = md S + 1 → md S < 5) (hle : (tt : Int) ≤ aLe A) (hx : 0 ≤ x ∧ x ≤ 65536) (hn : 0 ≤ n ∧ n ≤ 32768) (hv : 0 ≤ v ∧ v ≤ 16777216) (hww : w = 0 ∨ w = 1) (hr' : mRn (sIn S j 0 x n v w)) :
    ∃ A', Rd G m_Tree_insertRun [vR (517 + 6 * t), vI x, vI n, vI v, vI w] N (hpx A h0) none none (hpx A' h0) ∧ CX A' (gF SS t (enS S t (aM A) i.toNat (nbT (aTk A)) tt j x n v w)) (fun _ => False) ∧ aMa A' = aMa A ∧ aMw A' = aMw A ∧ aM A' = aM A ∧ aTk A' = tkT (aTk A) tt := by
  obtain ⟨hs, hr, ha, u1, u2, u3⟩ := hc.2.1 t ht
  rw [hS] at hs hr ha u1 u2 u3
  have h5 := hs.1
  have hm5 := hc.1.1
  have w260 : ∀ k, k ≤ md S → aWy A t k < 260 := fun k hk => by
    rw [(hw.2 k hk).1]
    exact hs.bl ht (by omega) (pP_b hs hi hk).1
  obtain ⟨k1, k2, ⟨k3, k4, k5⟩, k6, k7, k8⟩ := hc.takes (t := t) (l := md S) (c := tt) hle htt tt (Nat.le_refl _)
  obtain ⟨e1, e2, e3, e4, e5, e6, e7⟩ := tks_same (A := A) (t := t) (bs := fun k => nbT (aTk A) (md S - k)) (l := md S) tt
  have hlw := lwr_is hc.1 ht hs ha hw hi hfull tt (Nat.le_refl _) htt
  have hwB : WyTo (tkS A t (fun k => nbT (aTk A) (md S - k)) (md S) tt) t S i := by
    refine ⟨by rw [e1]; exact hw.1, fun k hk => ?_⟩
    rw [e2, e3]
    exact hw.2 k hk
  have irt : ∀ (C : cA) (l9 : Nat), aMa (irF C t l9 x n v w) = aMa C ∧ aMw (irF C t l9 x n v w) = aMw C ∧ aM (irF C t l9 x n v w) = aM C ∧ aTk (irF C t l9 x n v w) = aTk C := by
    intro C l9
    obtain ⟨r1, r2, r3, r4, r5, r6, r7, r8, r9, r10, r11, r12, r13, r14⟩ := rf_ru (t := t) l9 (irI C t l9 x n v w)
    refine ⟨?_, ?_, r14, ?_⟩
    · show gF (aMa (rfA (irI C t l9 x n v w) t l9)) t (aMa C t) = _
      rw [r3]
      exact gF_same _ _
    · show gF (aMw (rfA (irI C t l9 x n v w) t l9)) t (aMw C t) = _
      rw [r4]
      exact gF_same _ _
    · show aTk (rfA (irI C t l9 x n v w) t l9) = _
      rw [r12]
      exact gF_same _ _
  have sptk : ∀ (C : cA) (k9 : Nat) (n9 : Nat), aTk (spS C t k9 n9) = aTk C := by
    intro C k9 n9
    induction n9 with
    | zero => rfl
    | succ n9 ih => exact sp_tk.trans ih
  by_cases hca : tt ≤ md S
  · have hl2 : lwr A t (md S + 1) = ((md S - tt : Nat) : Int) := by
      rw [← hlw, show md S + 1 - tt = (md S - tt) + 1 by omega]
      have hp := (pP_b hs hi (k := md S - tt) (by omega)).1
      have hW := (hw.2 (md S - tt) (by omega)).1
      rw [show md S - (md S - tt) = tt by omega] at hp
      unfold pW at hW
      rw [show md S - (md S - tt) = tt by omega] at hW
      show (if (aRm A (aWy A t (md S - tt)) : Int) ≤ aEn A (aWy A t (md S - tt)) then _ else _) = _
      rw [hW, (ha tt hca _ hp).2.1, if_neg ?_]
      have hro := hroom hca
      unfold aRm
      by_cases h9 : tt = md S
      · rw [if_pos h9] at hro
        have hb := hs.2.1
        rw [h9] at hp hro ⊢
        rw [show mQ S i.toNat (md S + 1) = 0 by omega] at hro ⊢
        rw [hs.2.2.1, if_neg (by omega)]
        omega
      · rw [if_neg h9] at hro
        have := (hs.2.2.2.2.1 tt (by omega) _ hp).2.2.2
        rw [if_pos (by omega)]
        omega
    have sp := k1.splits (h := (aM A + 1) / 2) (nb := nbT (aTk A)) ht hS hwB hi (by rw [e7]) hca (fun y hy => by rw [hfull y hy, e7, if_neg (by omega)]) (by rw [e7]; exact hroom hca) k7 k8 tt (Nat.le_refl _)
    obtain ⟨c1, c2, ⟨c3, c4, c5, c6⟩, c7, c8⟩ := sp
    obtain ⟨m1, m2, m3, m4, m5, m6⟩ := spM_run (S := S) (i := i.toNat) (h := (aM A + 1) / 2) (nb := nbT (aTk A)) (top := tt) tt
    rw [Nat.sub_self] at c1 c7
    have c1 := c1.congF (F' := fun _ => False) (fun x => ⟨fun ⟨y, y1, _⟩ => absurd y1 (Nat.not_lt_zero _), fun z => z.elim⟩)
    have c7 : mc (spM S i.toNat ((aM A + 1) / 2) (nbT (aTk A)) tt tt) 0 (mQ (spM S i.toNat ((aM A + 1) / 2) (nbT (aTk A)) tt tt) i.toNat 1) < if 0 = md S then 4 else aM A := by
      rw [e7] at c7
      exact c7
    have fin := c1.ins (j := j) (p := mQ (spM S i.toNat ((aM A + 1) / 2) (nbT (aTk A)) tt tt) i.toNat 1) (x := x) (n := n) (v := v) (w := w) ht (gF_s _ _ _) c2 (by rw [m1]; exact hi) hjj rfl (by rw [m6, c4, e7]; exact c7) hx hn hv hww (mRn_of hr' (by show _ + 1 = _ + 1; rw [m1]) (by show insN _ _ _ = insN _ _ _; rw [m2]) (by show insN _ _ _ = insN _ _ _; rw [m3]) (by show insN _ _ _ = insN _ _ _; rw [m4]) (by show insN _ _ _ = insN _ _ _; rw [m5]))
    obtain ⟨f1, f2⟩ := fin
    rw [m6] at f1 f2
    rw [gF_uu] at f2
    refine ⟨_, c_insertRun_a (bs := fun k => nbT (aTk A) (md S - k)) (l := md S) (r := md S - tt) hc.1 ht hw.1 (by omega) w260 hl2 (by omega) (fun m hm => k6 m (by omega)) (fun m hm => by rw [show md S - (md S - tt) = tt by omega]; exact c8 m (by omega)) (by rw [show md S - (md S - tt) = tt by omega]; exact f1) hx hn hv hww, ?_⟩
    rw [show md S - (md S - tt) = tt by omega]
    obtain ⟨g1, g2, g3, g4⟩ := irt (spS (tkS A t (fun k => nbT (aTk A) (md S - k)) (md S) tt) t (md S - tt + 1) tt) (md S)
    refine ⟨?_, g1.trans (c5.trans k3), g2.trans (c6.trans k4), g3.trans (c4.trans e7), g4.trans ((sptk _ _ _).trans k2)⟩
    unfold enS
    rw [if_pos hca]
    exact f2
  · have htd : tt = md S + 1 := by omega
    subst htd
    have hd4 := hd rfl
    have hl2 : lwr A t (md S + 1) = -1 := by
      rw [← hlw, Nat.sub_self]
      rfl
    have hb0 : aFs (tkS A t (fun k => nbT (aTk A) (md S - k)) (md S) (md S + 1)) t 0 = nbT (aTk A) (md S) := by
      have := k7 (md S) (by omega)
      rw [Nat.sub_self] at this
      exact this
    have q0 : mQ S i.toNat (md S + 1) = 0 := by
      have hp := (pP_b hs hi (k := 0) (by omega)).1
      have hb := hs.2.1
      rw [Nat.sub_zero] at hp
      omega
    have full0 : mc S (md S) 0 = 4 := by
      have := hfull (md S) (by omega)
      rw [q0, if_pos rfl] at this
      exact this
    have gr := k1.grow (i := i) (b := nbT (aTk A) (md S)) ht hS hwB hi hd4 (by omega) ⟨md S, by omega, rfl⟩
    obtain ⟨c1, c2⟩ := gr
    have bn := k1.2.2.2.2.1 (nbT (aTk A) (md S)) ⟨md S, by omega, rfl⟩
    obtain ⟨n1, n2, n3, n4, n5, n6, n7, n8⟩ := gw_num (A := tkS A t (fun k => nbT (aTk A) (md S - k)) (md S) (md S + 1)) (t := t) (b := nbT (aTk A) (md S)) (l := md S) (by omega)
    have c1 := c1.congF (F' := fun x => ∃ y, y < md S ∧ x = nbT (aTk A) y) (fun x => by
      constructor
      · rintro ⟨⟨y, y1, y2⟩, y3⟩
        refine ⟨y, ?_, y2⟩
        have : y ≠ md S := fun z => y3 (by rw [y2, z])
        omega
      · rintro ⟨y, y1, y2⟩
        refine ⟨⟨y, by omega, y2⟩, ?_⟩
        rw [y2]
        exact k8 y (md S) y1 (by omega))
    have hsg : mSh (sGw S t (nbT (aTk A) (md S))) t (aM A) := by
      have := (c1.2.1 t ht).1
      rw [gF_s, n7, e7] at this
      exact this
    have hin : i.toNat < mn S := by
      by_cases h9 : 0 < md S
      · have := hs.npos h9
        omega
      · have h8 := hs.off (Nat.le_refl (md S)) (show 0 < mK S (md S) by have := hs.2.1; omega)
        have h7 : md S = 0 := by omega
        rw [h7] at h8 full0
        have h6 : mI S 0 = mn S := rfl
        omega
    obtain ⟨mq1, mq2⟩ := sgw_mQ (b := nbT (aTk A) (md S)) hs hsg hin
    have hdg : md (sGw S t (nbT (aTk A) (md S))) = md S + 1 := rfl
    have sp := c1.splits (S := sGw S t (nbT (aTk A) (md S))) (i := i) (h := (aM A + 1) / 2) (nb := nbT (aTk A)) (top := md S) ht (gF_s _ _ _) c2 hi (by rw [n7, e7]) (by rw [hdg]; omega) (fun y hy => by
      rw [sgw_co (by omega), mq1 _ (by omega), hfull y (by omega), n7, e7, if_neg (by omega)]) (by
      rw [sgw_co (Nat.le_refl _), mq1 _ (by omega), q0, full0, n7, e7, hdg, if_neg (by omega)]
      omega) (fun y hy => by
      rw [n8, hdg]
      have es : shf (aFs (tkS A t (fun k => nbT (aTk A) (md S - k)) (md S) (md S + 1)) t) 0 (md S) (md S + 1 - y) = aFs (tkS A t (fun k => nbT (aTk A) (md S - k)) (md S) (md S + 1)) t (md S + 1 - y - 1) := if_pos (by omega)
      rw [es, show md S + 1 - y - 1 = md S - y by omega]
      exact k7 y (by omega)) (fun y y' h1 h2 => k8 y y' h1 (by omega)) (md S) (Nat.le_refl _)
    rw [hdg, show md S + 1 - md S + 1 = 2 by omega] at sp
    obtain ⟨d1, d2, ⟨d3, d4, d5, d6⟩, d7, d8⟩ := sp
    obtain ⟨m1, m2, m3, m4, m5, m6⟩ := spM_run (S := sGw S t (nbT (aTk A) (md S))) (i := i.toNat) (h := (aM A + 1) / 2) (nb := nbT (aTk A)) (top := md S) (md S)
    rw [Nat.sub_self] at d1 d7
    rw [gF_uu] at d1
    have d1 := d1.congF (F' := fun _ => False) (fun x => ⟨fun ⟨y, y1, _⟩ => absurd y1 (Nat.not_lt_zero _), fun z => z.elim⟩)
    have d7 : mc (spM (sGw S t (nbT (aTk A) (md S))) i.toNat ((aM A + 1) / 2) (nbT (aTk A)) (md S) (md S)) 0 (mQ (spM (sGw S t (nbT (aTk A) (md S))) i.toNat ((aM A + 1) / 2) (nbT (aTk A)) (md S) (md S)) i.toNat 1) < if 0 = md S + 1 then 4 else aM A := by
      rw [n7, e7] at d7
      exact d7
    have fin := d1.ins (j := j) (p := mQ (spM (sGw S t (nbT (aTk A) (md S))) i.toNat ((aM A + 1) / 2) (nbT (aTk A)) (md S) (md S)) i.toNat 1) (x := x) (n := n) (v := v) (w := w) ht (gF_s _ _ _) d2 (by rw [m1]; exact hi) hjj rfl (by rw [m6, d4, n7, e7]; exact d7) hx hn hv hww (mRn_of hr' (by show _ + 1 = _ + 1; rw [m1]; rfl) (by show insN _ _ _ = insN _ _ _; rw [m2]; rfl) (by show insN _ _ _ = insN _ _ _; rw [m3]; rfl) (by show insN _ _ _ = insN _ _ _; rw [m4]; rfl) (by show insN _ _ _ = insN _ _ _; rw [m5]; rfl))
    obtain ⟨f1, f2⟩ := fin
    rw [m6, hdg] at f1 f2
    rw [gF_uu] at f2
    have dp0 : aDp A (256 + t) ≤ 4 := by
      have := (ha (md S) (Nat.le_refl _) 0 (by have := hs.2.1; omega)).1
      rw [hs.2.2.1] at this
      rw [this]
      omega
    have fsr : ∀ k, k ≤ md S → aFs (tkS A t (fun k => nbT (aTk A) (md S - k)) (md S) (md S + 1)) t k < 260 := by
      intro k hk
      have h1 := k7 (md S - k) (by omega)
      rw [show md S - (md S - k) = k by omega] at h1
      rw [h1]
      have := k1.2.2.2.2.1 (nbT (aTk A) (md S - k)) ⟨md S - k, by omega, rfl⟩
      omega
    refine ⟨_, c_insertRun_b (bs := fun k => nbT (aTk A) (md S - k)) (l := md S) hc.1 ht hw.1 hd4 w260 hl2 k6 dp0 hb0 fsr d8 f1 hx hn hv hww, ?_⟩
    obtain ⟨g1, g2, g3, g4⟩ := irt (spS (gw2 (gw1 (tkS A t (fun k => nbT (aTk A) (md S - k)) (md S) (md S + 1)) t (nbT (aTk A) (md S))) t (md S) (nbT (aTk A) (md S))) t 2 (md S)) (md S + 1)
    refine ⟨?_, g1.trans (d5.trans (n3.trans k3)), g2.trans (d6.trans (n4.trans k4)), g3.trans (d4.trans (n7.trans e7)), g4.trans ((sptk _ _ _).trans (gw_tk.trans k2))⟩
    unfold enS
    rw [if_neg hca]
    exact f2
end
