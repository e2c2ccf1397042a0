/-! .. a node goes -/
section
variable {R : rA} {K : Nat → Nat → Nat} {B C : Nat → Nat → Nat → Nat} {g l q e : Nat} {T' : Nat → Int}
theorem shE_lo {f : Nat → Int} {a k x : Nat} (h : x < a) : shE f a k x = f x := if_neg (by omega)
theorem shE_in {f : Nat → Int} {a k x : Nat} (h1 : a ≤ x) (h2 : x < k) : shE f a k x = f (x + 1) := if_pos ⟨h1, h2⟩
theorem shE_hi {f : Nat → Int} {a k x : Nat} (h : k ≤ x) : shE f a k x = f x := if_neg (by omega)
theorem RD.del (hd : RD R K B C) (hg : g < 4) (hl : l < 6) (hq : q < K g l) (he : e + 1 = 256 * l + oF K l 4) : RD (sR (sNE (sR R 10 T') (shE (zN R) (256 * l + oF K l g + q) e) (shE (zE R) (256 * l + oF K l g + q) e)) 9 (gF (zM R) (6 * g + l) (zM R (6 * g + l) - 1))) (uF2 K g l (K g l - 1)) (uF2 B g l (delN (B g l) q)) (uF2 C g l (delN (C g l) q)) := by
  obtain ⟨h1, h2, h3⟩ := hd
  have b1 := h1 l hl
  have b3 := oF_le (K := K) (l := l) hg
  have dn := oF_dn (K := K) (g := g) (l := l) (by omega)
  refine ⟨fun l2 hl2 => ?_, fun g2 hg2 l2 hl2 => ?_, fun g2 hg2 l2 hl2 p hp => ?_⟩
  · by_cases el : l2 = l
    · have := dn 4
      rw [if_pos hg] at this
      rw [el]
      omega
    · rw [oF_l el]
      exact h1 l2 hl2
  · have e9 : zM (sR (sNE (sR R 10 T') (shE (zN R) (256 * l + oF K l g + q) e) (shE (zE R) (256 * l + oF K l g + q) e)) 9 (gF (zM R) (6 * g + l) (zM R (6 * g + l) - 1))) = gF (zM R) (6 * g + l) (zM R (6 * g + l) - 1) := sR_s
    rw [e9]
    by_cases e : g2 = g ∧ l2 = l
    · rw [e.1, e.2, gF_s, uF2_s, h2 g hg l hl]
      omega
    · rw [gF_n (by omega)]
      have ek : uF2 K g l (K g l - 1) g2 l2 = K g2 l2 := by
        by_cases eg : g2 = g
        · exact uF2_l (fun z => e ⟨eg, z⟩)
        · rw [uF2_g eg]
      rw [ek]
      exact h2 g2 hg2 l2 hl2
  · have e7 : zN (sR (sNE (sR R 10 T') (shE (zN R) (256 * l + oF K l g + q) e) (shE (zE R) (256 * l + oF K l g + q) e)) 9 (gF (zM R) (6 * g + l) (zM R (6 * g + l) - 1))) = shE (zN R) (256 * l + oF K l g + q) e := (sR_n (by omega)).trans sNE_7
    have e8 : zE (sR (sNE (sR R 10 T') (shE (zN R) (256 * l + oF K l g + q) e) (shE (zE R) (256 * l + oF K l g + q) e)) 9 (gF (zM R) (6 * g + l) (zM R (6 * g + l) - 1))) = shE (zE R) (256 * l + oF K l g + q) e := (sR_n (by omega)).trans sNE_8
    rw [e7, e8]
    by_cases el : l2 = l
    · subst el
      have dg := dn g2
      by_cases eg : g2 = g
      · subst eg
        rw [uF2_s] at hp
        rw [if_neg (by omega), Nat.add_zero] at dg
        rw [dg, uF2_s, uF2_s]
        by_cases h9 : p < q
        · rw [shE_lo (by omega), shE_lo (by omega), del_lo h9, del_lo h9]
          exact h3 g2 hg2 l2 hl2 p (by omega)
        · rw [shE_in (by omega) (by omega), shE_in (by omega) (by omega), del_hi (by omega), del_hi (by omega)]
          exact h3 g2 hg2 l2 hl2 (p + 1) (by omega)
      · rw [uF2_g eg] at hp
        rw [uF2_g eg, uF2_g eg]
        have b4 := oF_le (K := K) (l := l2) hg2
        rcases Nat.lt_or_gt_of_ne eg with h9 | h9
        · have h8 : oF K l2 (g2 + 1) ≤ oF K l2 g := oF_mono h9
          have h7 : oF K l2 (g2 + 1) = oF K l2 g2 + K g2 l2 := rfl
          rw [if_neg (by omega), Nat.add_zero] at dg
          rw [dg, shE_lo (by omega), shE_lo (by omega)]
          exact h3 g2 hg2 l2 hl2 p hp
        · have h8 : oF K l2 (g + 1) ≤ oF K l2 g2 := oF_mono h9
          have h7 : oF K l2 (g + 1) = oF K l2 g + K g l2 := rfl
          rw [if_pos h9] at dg
          rw [shE_in (by omega) (by omega), shE_in (by omega) (by omega), show 256 * l2 + oF (uF2 K g l2 (K g l2 - 1)) l2 g2 + p + 1 = 256 * l2 + oF K l2 g2 + p by omega]
          exact h3 g2 hg2 l2 hl2 p hp
    · rw [uF2_l el] at hp
      rw [oF_l el, uF2_l el, uF2_l el]
      have b4 := oF_le (K := K) (l := l2) hg2
      have b5 := h1 l2 hl2
      rcases Nat.lt_or_gt_of_ne el with h9 | h9
      · rw [shE_lo (by omega), shE_lo (by omega)]
        exact h3 g2 hg2 l2 hl2 p hp
      · rw [shE_hi (by omega), shE_hi (by omega)]
        exact h3 g2 hg2 l2 hl2 p hp
end
