/-! WHAT A CALL DOES TO THE FILES, on the model -/
def Tn (SS : Nat → mS) (T : Nat → Int) : Prop := ∀ b, 1 ≤ b → b < 256 → (T b = 1 ∧ ∃ t l p, mOwn SS b t l p) ∨ (T b = 0 ∧ ¬ ∃ t l p, mOwn SS b t l p)
/-- run q goes -/
def Rm (S : mS) (t q : Nat) (S' : mS) : Prop := (∃ c, RmC S q c ∧ S' = sRm S q c) ∨ (EmC S q ∧ S' = sE t)
/-- a new run comes to place k; tt levels of the way are full -/
def EnT (SS : Nat → mS) (t m k tt : Nat) (x n v w : Int) (S' : mS) : Prop := ∃ T, Tn SS T ∧ tt ≤ md (SS t) + 1 ∧ (∀ y, y < tt → mc (SS t) y (mQ (SS t) (k - 1) (y + 1)) = if y = md (SS t) then 4 else m) ∧ (tt ≤ md (SS t) → mc (SS t) tt (mQ (SS t) (k - 1) (tt + 1)) < if tt = md (SS t) then 4 else m) ∧ S' = enS (SS t) t m (k - 1) (nbT T) tt k x n v w ∧ Tn (gF SS t S') (tkT T tt) ∧ (tt : Int) ≤ cnF T 255 ∧ (tt = md (SS t) + 1 → md (SS t) < 5) ∧ Gd (gF SS t S') m
/-- k runs lie before a place of n free blocks from x -/
def Fr (S : mS) (k : Nat) (x n : Int) : Prop := k ≤ mn S ∧ (∀ p, p < k → ms S p + ml S p ≤ x) ∧ ∀ p, k ≤ p → p < mn S → x + n ≤ ms S p
/-- the runs beside it can be joined with it -/
def jB (S : mS) (k : Nat) (x n v w : Int) : Prop := 0 < k ∧ ms S (k - 1) + ml S (k - 1) = x ∧ mv S (k - 1) + ml S (k - 1) = v ∧ mw S (k - 1) = w ∧ ml S (k - 1) + n ≤ 32767 + w
def jA (S : mS) (k : Nat) (x n v w b : Int) : Prop := k < mn S ∧ ms S k = x + n ∧ mv S k = v + n ∧ mw S k = w ∧ b + n + ml S k ≤ 32767 + w
def PutR (SS : Nat → mS) (t m k : Nat) (x n v w : Int) (S' : mS) : Prop :=
  (jB (SS t) k x n v w ∧ jA (SS t) k x n v w (ml (SS t) (k - 1)) ∧ ∃ S1, Rm (SS t) t k S1 ∧ Gd (gF SS t S1) m ∧ S' = sSet S1 (k - 1) (ms (SS t) (k - 1)) (ml (SS t) (k - 1) + n + ml (SS t) k) (mv (SS t) (k - 1)) w) ∨
  (jB (SS t) k x n v w ∧ ¬ jA (SS t) k x n v w (ml (SS t) (k - 1)) ∧ S' = sSet (SS t) (k - 1) (ms (SS t) (k - 1)) (ml (SS t) (k - 1) + n) (mv (SS t) (k - 1)) w) ∨
  (¬ jB (SS t) k x n v w ∧ jA (SS t) k x n v w 0 ∧ S' = sSet (SS t) k x (n + ml (SS t) k) v w) ∨
  (¬ jB (SS t) k x n v w ∧ ¬ jA (SS t) k x n v w 0 ∧ ∃ tt, EnT SS t m k tt x n v w S')
/-- n blocks from x, all in run q, go -/
def OutR (SS : Nat → mS) (t m q : Nat) (x n : Int) (S' : mS) : Prop :=
  (x = ms (SS t) q ∧ x + n = ms (SS t) q + ml (SS t) q ∧ Rm (SS t) t q S') ∨
  (x = ms (SS t) q ∧ x + n < ms (SS t) q + ml (SS t) q ∧ S' = sSet (SS t) q (x + n) (ms (SS t) q + ml (SS t) q - x - n) (mv (SS t) q + (x - ms (SS t) q) + n) (mw (SS t) q)) ∨
  (ms (SS t) q < x ∧ x + n = ms (SS t) q + ml (SS t) q ∧ S' = sSet (SS t) q (ms (SS t) q) (x - ms (SS t) q) (mv (SS t) q) (mw (SS t) q)) ∨
  (ms (SS t) q < x ∧ x + n < ms (SS t) q + ml (SS t) q ∧ ∃ tt, EnT (gF SS t (sSet (SS t) q (ms (SS t) q) (x - ms (SS t) q) (mv (SS t) q) (mw (SS t) q))) t m (q + 1) tt (x + n) (ms (SS t) q + ml (SS t) q - x - n) (mv (SS t) q + (x - ms (SS t) q) + n) (mw (SS t) q) S')
/-- all blocks from a up to e go, in at most f steps -/
def TO (t m : Nat) (e : Int) : Nat → (Nat → mS) → Int → (Nat → mS) → Int → Prop
  | 0, _, _, _, _ => False
  | f + 1, SS, a, SS', o => (e ≤ a ∧ SS' = SS ∧ o = 0) ∨ (a < e ∧ ∃ k, Fr (SS t) k a 1 ∧ TO t m e f SS (if k < mn (SS t) then ms (SS t) k else 65536) SS' o) ∨ (a < e ∧ ∃ q S1 n o1, q < mn (SS t) ∧ ms (SS t) q ≤ a ∧ a < ms (SS t) q + ml (SS t) q ∧ (n = (if e ≤ ms (SS t) q + ml (SS t) q then e else ms (SS t) q + ml (SS t) q) - a) ∧ OutR SS t m q a n S1 ∧ Gd (gF SS t S1) m ∧ TO t m e f (gF SS t S1) (a + n) SS' o1 ∧ o = n + o1)
section
variable {A : cA} {SS : Nat → mS} {F : Nat → Prop} {S : mS} {T T' : Nat → Int} {t m k q tt : Nat} {i x n v w b : Int}
theorem CX.tn (hc : CX A SS (fun _ => False)) : Tn SS (aTk A) := by
  intro b h1 h2
  rcases hc.2.2.2.1 b h1 h2 with ⟨a1, ⟨a2, _⟩ | ⟨_, a3⟩⟩ | ⟨a1, _, _, a3⟩
  · exact a2.elim
  · exact Or.inl ⟨a1, a3⟩
  · exact Or.inr ⟨a1, a3⟩
theorem Tn.eq (h : Tn SS T) (h' : Tn SS T') : ∀ b, 1 ≤ b → b < 256 → T b = T' b := by
  intro b h1 h2
  rcases h b h1 h2 with ⟨a1, a2⟩ | ⟨a1, a2⟩ <;> rcases h' b h1 h2 with ⟨c1, c2⟩ | ⟨c1, c2⟩
  · rw [a1, c1]
  · exact absurd a2 c2
  · exact absurd c2 a2
  · rw [a1, c1]
theorem lfF_congr : ∀ n k, 1 ≤ k → k + n ≤ 256 → (∀ b, 1 ≤ b → b < 256 → T b = T' b) → lfF T n k = lfF T' n k := by
  intro n
  induction n with
  | zero => intro k _ _ _; rfl
  | succ n ih =>
    intro k h1 h2 h
    unfold lfF
    rw [h k h1 (by omega), ih (k + 1) (by omega) (by omega) h]
theorem tkT_congr (h : ∀ b, 1 ≤ b → b < 256 → T b = T' b) : ∀ y, (∀ b, 1 ≤ b → b < 256 → tkT T y b = tkT T' y b) ∧ nbT T y = nbT T' y := by
  intro y
  induction y with
  | zero => exact ⟨h, lfF_congr 255 1 (by omega) (by omega) h⟩
  | succ y ih =>
    have e : ∀ b, 1 ≤ b → b < 256 → tkT T (y + 1) b = tkT T' (y + 1) b := by
      intro b h1 h2
      show gF (tkT T y) (nbT T y) 1 b = gF (tkT T' y) (nbT T' y) 1 b
      rw [ih.2]
      by_cases e : b = nbT T' y
      · rw [e, gF_s, gF_s]
      · rw [gF_n e, gF_n e, ih.1 b h1 h2]
    exact ⟨e, lfF_congr 255 1 (by omega) (by omega) e⟩
theorem nbT_congr (h : Tn SS T) (h' : Tn SS T') : nbT T = nbT T' := funext (fun y => (tkT_congr (h.eq h') y).2)
theorem wy_eq (hw : WyTo A t S i) : fnd A t (pW S i) (pP S i) (md S + 1) (md S) = A := by
  have e1 : mix (pW S i) (aWy A t) (md S + 1) = aWy A t := by
    funext j
    unfold mix
    by_cases h : j < md S + 1
    · rw [if_pos h, (hw.2 j (by omega)).1]
    · rw [if_neg h]
  have e2 : mix (pP S i) (aPl A t) (md S + 1) = aPl A t := by
    funext j
    unfold mix
    by_cases h : j < md S + 1
    · rw [if_pos h, (hw.2 j (by omega)).2]
    · rw [if_neg h]
  unfold fnd
  rw [e1, e2, ← hw.1]
  exact fG_0 A t
theorem emc_n (hs : mSh S t m) (h : EmC S q) : mn S = 1 := by
  have h1 := emc_k hs h (md S) (Nat.le_refl _)
  rw [Nat.sub_self] at h1
  have h2 := hs.2.2.2.1 0 (Nat.zero_le _)
  have h3 := (mQ_in hs h.1 (Nat.zero_le (md S))).1
  have h4 := h.2 0 (Nat.zero_le _)
  have h5 : mI S 0 = mn S := rfl
  have h6 : sm (mc S 0) 1 = 0 + mc S 0 0 := rfl
  rw [show mQ S q (0 + 1) = 0 by omega] at h4
  rw [h1] at h2
  omega
/-- the runs after one went -/
theorem Rm.runs (hs : mSh S t m) {S' : mS} (h : Rm S t q S') : q < mn S ∧ mn S' + 1 = mn S ∧ ∀ i, i < mn S' → ms S' i = delN (ms S) q i ∧ ml S' i = delN (ml S) q i ∧ mv S' i = delN (mv S) q i ∧ mw S' i = delN (mw S) q i := by
  rcases h with ⟨c, h1, rfl⟩ | ⟨h1, rfl⟩
  · have h2 := h1.1
    refine ⟨h2, ?_, fun i hi => ⟨rfl, rfl, rfl, rfl⟩⟩
    show mn S - 1 + 1 = mn S
    omega
  · have h2 := emc_n hs h1
    refine ⟨h1.1, ?_, fun i hi => absurd hi (Nat.not_lt_zero _)⟩
    show 0 + 1 = mn S
    omega
theorem enS_run {nb : Nat → Nat} {i j : Nat} : mn (enS S t m i nb tt j x n v w) = mn S + 1 ∧ ms (enS S t m i nb tt j x n v w) = insN (ms S) j x ∧ ml (enS S t m i nb tt j x n v w) = insN (ml S) j n ∧ mv (enS S t m i nb tt j x n v w) = insN (mv S) j v ∧ mw (enS S t m i nb tt j x n v w) = insN (mw S) j w := by
  unfold enS
  split
  · obtain ⟨a1, a2, a3, a4, a5, a6⟩ := spM_run (S := S) (i := i) (h := (m + 1) / 2) (nb := nb) (top := tt) tt
    refine ⟨?_, ?_, ?_, ?_, ?_⟩
    · show mn (spM S i ((m + 1) / 2) nb tt tt) + 1 = _
      rw [a1]
    · show insN (ms (spM S i ((m + 1) / 2) nb tt tt)) j x = _
      rw [a2]
    · show insN (ml (spM S i ((m + 1) / 2) nb tt tt)) j n = _
      rw [a3]
    · show insN (mv (spM S i ((m + 1) / 2) nb tt tt)) j v = _
      rw [a4]
    · show insN (mw (spM S i ((m + 1) / 2) nb tt tt)) j w = _
      rw [a5]
  · obtain ⟨a1, a2, a3, a4, a5, a6⟩ := spM_run (S := sGw S t (nb (md S))) (i := i) (h := (m + 1) / 2) (nb := nb) (top := md S) (md S)
    refine ⟨?_, ?_, ?_, ?_, ?_⟩
    · show mn (spM (sGw S t (nb (md S))) i ((m + 1) / 2) nb (md S) (md S)) + 1 = _
      rw [a1]
      rfl
    · show insN (ms (spM (sGw S t (nb (md S))) i ((m + 1) / 2) nb (md S) (md S))) j x = _
      rw [a2]
      rfl
    · show insN (ml (spM (sGw S t (nb (md S))) i ((m + 1) / 2) nb (md S) (md S))) j n = _
      rw [a3]
      rfl
    · show insN (mv (spM (sGw S t (nb (md S))) i ((m + 1) / 2) nb (md S) (md S))) j v = _
      rw [a4]
      rfl
    · show insN (mw (spM (sGw S t (nb (md S))) i ((m + 1) / 2) nb (md S) (md S))) j w = _
      rw [a5]
      rfl
theorem ls_is (hr : mRn S) (hk : k ≤ mn S) (h1 : ∀ p, p < k → ms S p ≤ b) (h2 : k < mn S → b < ms S k) : lsS S b = (k : Int) - 1 := by
  obtain ⟨g1, g2, g3⟩ := lsR_spec hr b
  show lsR (ms S) b (mn S) = _
  generalize lsR (ms S) b (mn S) = i at *
  rcases Int.lt_trichotomy i ((k : Int) - 1) with h | h | h
  · have a := g3 (by omega)
    have c := h1 (i + 1).toNat (by omega)
    omega
  · exact h
  · have a := g2 (by omega)
    have c := h2 (by omega)
    by_cases e : i.toNat = k
    · rw [e] at a
      omega
    · have := hr.lt (show k < i.toNat by omega) (by omega)
      omega
theorem Fr.ls (hr : mRn S) (hf : Fr S k x n) (hn : 1 ≤ n) : lsS S x = (k : Int) - 1 := ls_is hr hf.1 (fun p hp => by
    have a := hf.2.1 p hp
    have c := hf.1
    have := (hr.1 p (by omega)).2.1
    omega) (fun h => by
    have := hf.2.2 k (Nat.le_refl _) h
    omega)
theorem WyTo.tr (hc : CX A SS F) (ht : t < 4) (hS : SS t = S) (hw : WyTo A t S i) (hi : -1 ≤ i ∧ i < mn S) : aLf A t = ((md S : Nat) : Int) ∧ md S < 6 ∧ aWy A t (md S) < 260 ∧ (-2147483648 ≤ aPl A t (md S) ∧ aPl A t (md S) ≤ 2147483647) := by
  subst hS
  obtain ⟨hs, hr, ha, -⟩ := hc.2.1 t ht
  have h5 := hs.1
  have hm := hc.1.2.1
  obtain ⟨p1, p2, p3, -⟩ := pP_b hs hi (k := md (SS t)) (Nat.le_refl _)
  obtain ⟨w1, w2⟩ := hw.2 (md (SS t)) (Nat.le_refl _)
  refine ⟨hw.1, by omega, ?_, ?_⟩
  · rw [w1]
    exact hs.bl ht (by omega) p1
  · rw [w2]
    have hmc : mc (SS t) (md (SS t) - md (SS t)) (mQ (SS t) i.toNat (md (SS t) - md (SS t) + 1)) ≤ 84 := by
      by_cases h9 : md (SS t) - md (SS t) < md (SS t)
      · have := (hs.2.2.2.2.1 _ h9 _ p1).2.1
        omega
      · have e : md (SS t) - md (SS t) = md (SS t) := by omega
        rw [e] at p1 ⊢
        have hb := hs.2.1
        rw [show mQ (SS t) i.toNat (md (SS t) + 1) = 0 by omega]
        have := hs.2.2.2.2.2.1
        omega
    omega
end
