/-! an insertion, level by level -/
section
variable {S : mS} {t m i j tt : Nat} {nb : Nat → Nat} {x n v w : Int}
theorem enS_eq (hs : mSh S t m) (hi : i < mn S ∨ tt = 0) (hm : 5 ≤ m) (htt : tt ≤ md S + 1) (hfull : ∀ y, y < tt → mc S y (mQ S i (y + 1)) = if y = md S then 4 else m) :
    (∀ y, y < tt → y < md S → mK (enS S t m i nb tt j x n v w) y = mK S y + 1 ∧ mb (enS S t m i nb tt j x n v w) y = insN (mb S y) (mQ S i (y + 1) + 1) (nb y) ∧ mc (enS S t m i nb tt j x n v w) y = incN (splN (mc S y) (mQ S i (y + 1)) ((m + 1) / 2)) (cQ S i ((m + 1) / 2) y)) ∧
    (tt ≤ md S → md (enS S t m i nb tt j x n v w) = md S ∧ mK (enS S t m i nb tt j x n v w) tt = mK S tt ∧ mb (enS S t m i nb tt j x n v w) tt = mb S tt ∧ mc (enS S t m i nb tt j x n v w) tt = incN (mc S tt) (mQ S i (tt + 1))) ∧
    (∀ y, tt < y → y ≤ md S → mK (enS S t m i nb tt j x n v w) y = mK S y ∧ mb (enS S t m i nb tt j x n v w) y = mb S y ∧ mc (enS S t m i nb tt j x n v w) y = mc S y) ∧
    (tt = md S + 1 → md (enS S t m i nb tt j x n v w) = md S + 1 ∧ mK (enS S t m i nb tt j x n v w) (md S) = mK S (md S) ∧ mb (enS S t m i nb tt j x n v w) (md S) = (fun _ => nb (md S)) ∧ mc (enS S t m i nb tt j x n v w) (md S) = incN (mc S (md S)) 0 ∧ mc (enS S t m i nb tt j x n v w) (md S + 1) = (fun _ => 1) ∧ mK (enS S t m i nb tt j x n v w) (md S + 1) = 1) := by
  by_cases hca : tt ≤ md S
  · have eE : enS S t m i nb tt j x n v w = sIn (spM S i ((m + 1) / 2) nb tt tt) j (mQ (spM S i ((m + 1) / 2) nb tt tt) i 1) x n v w := if_pos hca
    rw [eE]
    by_cases h0 : tt = 0
    · subst h0
      refine ⟨fun y hy => absurd hy (Nat.not_lt_zero _), fun _ => ⟨rfl, rfl, rfl, sin_c0⟩, fun y hy hy2 => ⟨rfl, rfl, sin_co (by omega)⟩, fun h => absurd h (by omega)⟩
    · have hi' : i < mn S := by omega
      obtain ⟨a1, ⟨b1, b2, b3⟩, c1, d1, e1, e2, e3⟩ := spM_eq (S := S) (i := i) (h := (m + 1) / 2) (top := tt) (nb := nb) (fun y hy => mQ_in hs hi' (by omega)) (fun y hy => by
        rw [hfull y hy, if_neg (by omega)]
        omega) tt (Nat.le_refl _)
      rw [Nat.sub_self] at c1 e2
      obtain ⟨m1, m2, m3, m4, m5, m6⟩ := spM_run (S := S) (i := i) (h := (m + 1) / 2) (nb := nb) (top := tt) tt
      have q0 := e2 0 (Nat.zero_le _) (by omega)
      rw [show 0 + 1 = 1 from rfl] at q0
      rw [q0]
      refine ⟨fun y hy hy2 => ?_, fun _ => ⟨m6, b2, b3, ?_⟩, fun y hy hy2 => ?_, fun h => absurd h (by omega)⟩
      · obtain ⟨k1, k2, k3⟩ := c1 y (Nat.zero_le _) hy
        refine ⟨k1, k2, ?_⟩
        by_cases h9 : y = 0
        · subst h9
          rw [if_pos rfl] at k3
          rw [sin_c0, k3]
        · rw [if_neg h9] at k3
          rw [sin_co h9, k3]
      · rw [sin_co h0, b1, if_neg h0]
      · obtain ⟨k1, k2, k3⟩ := d1 y hy
        refine ⟨k2, k3, ?_⟩
        rw [sin_co (by omega), k1]
  · have htt2 : tt = md S + 1 := by omega
    have hi' : i < mn S := by omega
    have eE : enS S t m i nb tt j x n v w = sIn (spM (sGw S t (nb (md S))) i ((m + 1) / 2) nb (md S) (md S)) j (mQ (spM (sGw S t (nb (md S))) i ((m + 1) / 2) nb (md S) (md S)) i 1) x n v w := if_neg hca
    rw [eE]
    have mq : ∀ y, y ≤ md S + 1 → mQ (sGw S t (nb (md S))) i y = mQ S i y := fun y hy => mQ_congr y (fun k hk => ⟨sgw_co (by omega), sgw_ko (by omega)⟩)
    have qd : mQ S i (md S + 1) = 0 := mQ_top hs hi'
    obtain ⟨a1, ⟨b1, b2, b3⟩, c1, d1, e1, e2, e3⟩ := spM_eq (S := sGw S t (nb (md S))) (i := i) (h := (m + 1) / 2) (top := md S) (nb := nb) (fun y hy => by
      rw [mq (y + 1) (by omega), mq y (by omega), sgw_ko hy, sgw_co hy]
      exact mQ_in hs hi' hy) (fun y hy => by
      rw [mq (y + 1) (by omega), sgw_co (by omega), hfull y (by omega), if_neg (by omega)]
      omega) (md S) (Nat.le_refl _)
    rw [Nat.sub_self] at c1 e2
    have cq : ∀ y, y < md S → cQ (sGw S t (nb (md S))) i ((m + 1) / 2) y = cQ S i ((m + 1) / 2) y := by
      intro y hy
      unfold cQ
      rw [mq (y + 1) (by omega), mq y (by omega), sgw_co (by omega)]
    obtain ⟨m1, m2, m3, m4, m5, m6⟩ := spM_run (S := sGw S t (nb (md S))) (i := i) (h := (m + 1) / 2) (nb := nb) (top := md S) (md S)
    obtain ⟨d2, d3, d4⟩ := d1 (md S + 1) (by omega)
    refine ⟨fun y hy hy2 => ?_, fun h => absurd h hca, fun y hy hy2 => absurd hy (by omega), fun _ => ⟨m6, ?_, ?_, ?_, ?_, ?_⟩⟩
    · obtain ⟨k1, k2, k3⟩ := c1 y (Nat.zero_le _) hy2
      rw [sgw_ko (show y ≤ md S by omega)] at k1
      rw [mq (y + 1) (by omega)] at k2 k3
      refine ⟨k1, ?_, ?_⟩
      · refine k2.trans ?_
        rw [sgw_bo (by omega)]
      · rw [cq y hy2, sgw_co (by omega)] at k3
        by_cases h9 : y = 0
        · subst h9
          rw [if_pos rfl] at k3
          have q0 := e2 0 (Nat.zero_le _) (by omega)
          rw [show 0 + 1 = 1 from rfl] at q0
          rw [sin_c0, k3, q0, cq 0 hy2]
        · rw [if_neg h9] at k3
          rw [sin_co h9, k3]
    · refine b2.trans ?_
      rw [sgw_ko (Nat.le_refl _)]
    · refine b3.trans ?_
      rw [sgw_bd]
    · by_cases h9 : md S = 0
      · rw [h9] at b1 e3 qd ⊢
        rw [if_pos rfl] at b1
        have g := mq 1 (by omega)
        rw [h9] at g
        rw [show 0 + 1 = 1 from rfl] at e3 qd
        rw [sin_c0, b1, e3, g, qd]
        have := sgw_co (S := S) (t := t) (b := nb 0) (k := 0) (Nat.zero_le _)
        rw [this]
      · rw [if_neg h9, mq _ (Nat.le_refl _), qd, sgw_co (Nat.le_refl _)] at b1
        rw [sin_co h9, b1]
    · rw [sin_co (by omega), d2, sgw_ct]
    · refine d3.trans ?_
      exact sgw_kt
end
