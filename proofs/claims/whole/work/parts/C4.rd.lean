/-! the reference's nodes: how many each file has on each level, their blocks and entries -/
def RD (R : rA) (K : Nat → Nat → Nat) (B C : Nat → Nat → Nat → Nat) : Prop := (∀ l, l < 6 → oF K l 4 ≤ 255) ∧ (∀ g, g < 4 → ∀ l, l < 6 → zM R (6 * g + l) = (K g l : Int)) ∧ ∀ g, g < 4 → ∀ l, l < 6 → ∀ p, p < K g l → zN R (256 * l + oF K l g + p) = (B g l p : Int) ∧ zE R (256 * l + oF K l g + p) = (C g l p : Int)
def uF2 {α : Type} (f : Nat → Nat → α) (g l : Nat) (x : α) : Nat → Nat → α := gF f g (gF (f g) l x)
section
variable {α : Type} {f : Nat → Nat → α} {g l g' l' : Nat} {x : α}
theorem uF2_s : uF2 f g l x g l = x := by
  unfold uF2
  rw [gF_s, gF_s]
theorem uF2_g (h : g' ≠ g) : uF2 f g l x g' = f g' := gF_n h
theorem uF2_l (h : l' ≠ l) : uF2 f g l x g' l' = f g' l' := by
  unfold uF2
  by_cases e : g' = g
  · rw [e, gF_s, gF_n h]
  · rw [gF_n e]
end
section
variable {R : rA} {K K' : Nat → Nat → Nat} {B C B' C' : Nat → Nat → Nat → Nat} {g l q : Nat}
theorem oF_le {g2 : Nat} (h : g2 < 4) : oF K l g2 + K g2 l ≤ oF K l 4 := by
  have : oF K l (g2 + 1) ≤ oF K l 4 := sm_mono (by omega)
  exact this
theorem oF_mono {a b : Nat} (h : a ≤ b) : oF K l a ≤ oF K l b := sm_mono h
theorem oF_congr {g2 : Nat} (h : ∀ g, g < g2 → K g l = K' g l) : oF K l g2 = oF K' l g2 := sm_congr h
theorem oF_up {n : Nat} : ∀ g2, oF (uF2 K g l (K g l + n)) l g2 = oF K l g2 + if g < g2 then n else 0 := by
  intro g2
  induction g2 with
  | zero =>
    rw [if_neg (by omega)]
    rfl
  | succ g2 ih =>
    show oF (uF2 K g l (K g l + n)) l g2 + uF2 K g l (K g l + n) g2 l = oF K l g2 + K g2 l + _
    rw [ih]
    by_cases e : g2 = g
    · rw [e, uF2_s, if_neg (by omega), if_pos (by omega)]
      omega
    · rw [uF2_g e]
      by_cases e2 : g < g2
      · rw [if_pos e2, if_pos (by omega)]
        omega
      · rw [if_neg e2, if_neg (by omega)]
        omega
theorem oF_dn (hq : 1 ≤ K g l) : ∀ g2, oF (uF2 K g l (K g l - 1)) l g2 + (if g < g2 then 1 else 0) = oF K l g2 := by
  intro g2
  induction g2 with
  | zero =>
    rw [if_neg (by omega)]
    rfl
  | succ g2 ih =>
    show oF (uF2 K g l (K g l - 1)) l g2 + uF2 K g l (K g l - 1) g2 l + _ = oF K l g2 + K g2 l
    by_cases e : g2 = g
    · rw [e] at ih ⊢
      rw [uF2_s, if_pos (by omega)]
      rw [if_neg (by omega)] at ih
      omega
    · rw [uF2_g e]
      by_cases e2 : g < g2
      · rw [if_pos e2] at ih
        rw [if_pos (by omega)]
        omega
      · rw [if_neg e2] at ih
        rw [if_neg (by omega)]
        omega
theorem oF_l {l' n : Nat} (h : l' ≠ l) (g2 : Nat) : oF (uF2 K g l n) l' g2 = oF K l' g2 := oF_congr (fun g _ => uF2_l h)
theorem RD.lv (hd : RD R K B C) {g2 l2 : Nat} (hg : g2 ≤ 4) (hl : l2 < 6) : lvO R g2 l2 = ((256 * l2 + oF K l2 g2 : Nat) : Int) := by
  have key : ∀ n, n ≤ 4 → smI (fun g => zM R (6 * g + l2)) n = ((oF K l2 n : Nat) : Int) := by
    intro n
    induction n with
    | zero => intro _; rfl
    | succ n ih =>
      intro hn
      show smI (fun g => zM R (6 * g + l2)) n + zM R (6 * n + l2) = ((oF K l2 n + K n l2 : Nat) : Int)
      rw [ih (by omega), hd.2.1 n (by omega) l2 hl]
      omega
  unfold lvO
  rw [key g2 hg]
  omega
theorem RD.congr (hd : RD R K B C) (hK : ∀ g, g < 4 → ∀ l, l < 6 → K' g l = K g l) (hB : ∀ g, g < 4 → ∀ l, l < 6 → ∀ p, p < K g l → B' g l p = B g l p ∧ C' g l p = C g l p) : RD R K' B' C' := by
  obtain ⟨h1, h2, h3⟩ := hd
  have e : ∀ l, l < 6 → ∀ g, g ≤ 4 → oF K' l g = oF K l g := fun l hl g hg => oF_congr (fun g' h' => hK g' (by omega) l hl)
  refine ⟨fun l hl => by rw [e l hl 4 (Nat.le_refl _)]; exact h1 l hl, fun g hg l hl => by rw [hK g hg l hl]; exact h2 g hg l hl, fun g hg l hl p hp => ?_⟩
  rw [hK g hg l hl] at hp
  rw [e l hl g (by omega), (hB g hg l hl p hp).1, (hB g hg l hl p hp).2]
  exact h3 g hg l hl p hp
/-- the node's entries only -/
theorem RD.cnt (hd : RD R K B C) (hg : g < 4) (hl : l < 6) (hq : q < K g l) {x : Nat} : RD (sR R 8 (gF (zE R) (256 * l + oF K l g + q) (x : Int))) K B (uF2 C g l (gF (C g l) q x)) := by
  obtain ⟨h1, h2, h3⟩ := hd
  refine ⟨h1, h2, fun g2 hg2 l2 hl2 p hp => ⟨(h3 g2 hg2 l2 hl2 p hp).1, ?_⟩⟩
  have e8 : zE (sR R 8 (gF (zE R) (256 * l + oF K l g + q) (x : Int))) = gF (zE R) (256 * l + oF K l g + q) (x : Int) := sR_s
  have hh := (h3 g2 hg2 l2 hl2 p hp).2
  have b1 := h1 l hl
  have b2 := h1 l2 hl2
  have b3 := oF_le (K := K) (l := l) hg
  have b4 := oF_le (K := K) (l := l2) hg2
  rw [e8]
  by_cases el : l2 = l
  · subst el
    by_cases eg : g2 = g
    · subst eg
      rw [uF2_s]
      by_cases ep : p = q
      · rw [ep, gF_s, gF_s]
      · rw [gF_n (by omega), gF_n ep]
        exact hh
    · have : 256 * l2 + oF K l2 g2 + p ≠ 256 * l2 + oF K l2 g + q := by
        rcases Nat.lt_or_gt_of_ne eg with h9 | h9
        · have h8 : oF K l2 (g2 + 1) ≤ oF K l2 g := oF_mono h9
          have h7 : oF K l2 (g2 + 1) = oF K l2 g2 + K g2 l2 := rfl
          omega
        · have h8 : oF K l2 (g + 1) ≤ oF K l2 g2 := oF_mono h9
          have h7 : oF K l2 (g + 1) = oF K l2 g + K g l2 := rfl
          omega
      rw [gF_n this, uF2_g eg]
      exact hh
  · rw [gF_n (by omega), uF2_l el]
    exact hh
theorem shU_lo {f : Nat → Int} {a e x : Nat} (h : x ≤ a) : shU f a e x = f x := if_neg (by omega)
theorem shU_in {f : Nat → Int} {a e x : Nat} (h1 : a ≤ x) (h2 : x + 1 ≤ e) : shU f a e (x + 1) = f x := by
  unfold shU
  rw [if_pos (by omega), Nat.add_sub_cancel]
theorem shU_hi {f : Nat → Int} {a e x : Nat} (h : e < x) : shU f a e x = f x := if_neg (by omega)
/-- a node comes in -/
theorem RD.ins (hd : RD R K B C) (hg : g < 4) (hl : l < 6) (hq : q ≤ K g l) (hro : oF K l 4 ≤ 254) {x n : Nat} : RD (sR (sNE R (gF (shU (zN R) (256 * l + oF K l g + q) (256 * l + oF K l 4)) (256 * l + oF K l g + q) (x : Int)) (gF (shU (zE R) (256 * l + oF K l g + q) (256 * l + oF K l 4)) (256 * l + oF K l g + q) (n : Int))) 9 (gF (zM R) (6 * g + l) (zM R (6 * g + l) + 1))) (uF2 K g l (K g l + 1)) (uF2 B g l (insN (B g l) q x)) (uF2 C g l (insN (C g l) q n)) := by
  obtain ⟨h1, h2, h3⟩ := hd
  have b1 := h1 l hl
  have b3 := oF_le (K := K) (l := l) hg
  have up := oF_up (K := K) (g := g) (l := l) (n := 1)
  refine ⟨fun l2 hl2 => ?_, fun g2 hg2 l2 hl2 => ?_, fun g2 hg2 l2 hl2 p hp => ?_⟩
  · by_cases el : l2 = l
    · rw [el, up, if_pos hg]
      omega
    · rw [oF_l el]
      exact h1 l2 hl2
  · have e9 : zM (sR (sNE R (gF (shU (zN R) (256 * l + oF K l g + q) (256 * l + oF K l 4)) (256 * l + oF K l g + q) (x : Int)) (gF (shU (zE R) (256 * l + oF K l g + q) (256 * l + oF K l 4)) (256 * l + oF K l g + q) (n : Int))) 9 (gF (zM R) (6 * g + l) (zM R (6 * g + l) + 1))) = gF (zM R) (6 * g + l) (zM R (6 * g + l) + 1) := sR_s
    rw [e9]
    by_cases e : g2 = g ∧ l2 = l
    · rw [e.1, e.2, gF_s, uF2_s, h2 g hg l hl]
      omega
    · rw [gF_n (by omega)]
      have ek : uF2 K g l (K g l + 1) g2 l2 = K g2 l2 := by
        by_cases eg : g2 = g
        · exact uF2_l (fun z => e ⟨eg, z⟩)
        · rw [uF2_g eg]
      rw [ek]
      exact h2 g2 hg2 l2 hl2
  · have e7 : zN (sR (sNE R (gF (shU (zN R) (256 * l + oF K l g + q) (256 * l + oF K l 4)) (256 * l + oF K l g + q) (x : Int)) (gF (shU (zE R) (256 * l + oF K l g + q) (256 * l + oF K l 4)) (256 * l + oF K l g + q) (n : Int))) 9 (gF (zM R) (6 * g + l) (zM R (6 * g + l) + 1))) = gF (shU (zN R) (256 * l + oF K l g + q) (256 * l + oF K l 4)) (256 * l + oF K l g + q) (x : Int) := (sR_n (by omega)).trans sNE_7
    have e8 : zE (sR (sNE R (gF (shU (zN R) (256 * l + oF K l g + q) (256 * l + oF K l 4)) (256 * l + oF K l g + q) (x : Int)) (gF (shU (zE R) (256 * l + oF K l g + q) (256 * l + oF K l 4)) (256 * l + oF K l g + q) (n : Int))) 9 (gF (zM R) (6 * g + l) (zM R (6 * g + l) + 1))) = gF (shU (zE R) (256 * l + oF K l g + q) (256 * l + oF K l 4)) (256 * l + oF K l g + q) (n : Int) := (sR_n (by omega)).trans sNE_8
    rw [e7, e8]
    by_cases el : l2 = l
    · subst el
      rw [up]
      by_cases eg : g2 = g
      · subst eg
        rw [uF2_s] at hp
        rw [if_neg (by omega), uF2_s, uF2_s, Nat.add_zero]
        rcases Nat.lt_trichotomy p q with h9 | h9 | h9
        · rw [gF_n (by omega), gF_n (by omega), shU_lo (by omega), shU_lo (by omega), insN_lo h9, insN_lo h9]
          exact h3 g2 hg2 l2 hl2 p (by omega)
        · rw [h9, gF_s, gF_s, insN_at, insN_at]
          exact ⟨rfl, rfl⟩
        · obtain ⟨r, rfl⟩ : ∃ r, p = r + 1 := ⟨p - 1, by omega⟩
          rw [gF_n (by omega), gF_n (by omega), ← Nat.add_assoc, shU_in (by omega) (by omega), shU_in (by omega) (by omega), insN_hi (by omega), insN_hi (by omega)]
          exact h3 g2 hg2 l2 hl2 r (by omega)
      · rw [uF2_g eg] at hp
        rw [uF2_g eg, uF2_g eg]
        have b4 := oF_le (K := K) (l := l2) hg2
        rcases Nat.lt_or_gt_of_ne eg with h9 | h9
        · have h8 : oF K l2 (g2 + 1) ≤ oF K l2 g := oF_mono h9
          have h7 : oF K l2 (g2 + 1) = oF K l2 g2 + K g2 l2 := rfl
          rw [if_neg (by omega), Nat.add_zero, gF_n (by omega), gF_n (by omega), shU_lo (by omega), shU_lo (by omega)]
          exact h3 g2 hg2 l2 hl2 p hp
        · have h8 : oF K l2 (g + 1) ≤ oF K l2 g2 := oF_mono h9
          have h7 : oF K l2 (g + 1) = oF K l2 g + K g l2 := rfl
          rw [if_pos h9, show 256 * l2 + (oF K l2 g2 + 1) + p = (256 * l2 + oF K l2 g2 + p) + 1 by omega, gF_n (by omega), gF_n (by omega), shU_in (by omega) (by omega), shU_in (by omega) (by omega)]
          exact h3 g2 hg2 l2 hl2 p hp
    · rw [uF2_l el] at hp
      rw [oF_l el, uF2_l el, uF2_l el]
      have b4 := oF_le (K := K) (l := l2) hg2
      have b5 := h1 l2 hl2
      rcases Nat.lt_or_gt_of_ne el with h9 | h9
      · rw [gF_n (by omega), gF_n (by omega), shU_lo (by omega), shU_lo (by omega)]
        exact h3 g2 hg2 l2 hl2 p hp
      · rw [gF_n (by omega), gF_n (by omega), shU_hi (by omega), shU_hi (by omega)]
        exact h3 g2 hg2 l2 hl2 p hp
end
