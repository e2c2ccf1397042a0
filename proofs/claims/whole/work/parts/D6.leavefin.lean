/-! the reference: leave, on the model -/
def dK (K : Nat → Nat → Nat) (t n : Nat) : Nat → Nat → Nat := fun g l => if g = t ∧ l < n then K g l - 1 else K g l
def dB (B : Nat → Nat → Nat → Nat) (t n : Nat) (P : Nat → Nat) : Nat → Nat → Nat → Nat := fun g l => if g = t ∧ l < n then delN (B g l) (P l) else B g l
def tdT (T : Nat → Int) (bs : Nat → Nat) : Nat → Nat → Int
  | 0 => T
  | n + 1 => gF (tdT T bs n) (bs n) 0
section
variable {T : Nat → Int} {bs : Nat → Nat}
theorem tdT_in : ∀ n b, (∃ y, y < n ∧ b = bs y) → tdT T bs n b = 0 := by
  intro n
  induction n with
  | zero => rintro b ⟨y, hy, _⟩; exact absurd hy (Nat.not_lt_zero _)
  | succ n ih =>
    rintro b ⟨y, hy, e⟩
    show gF (tdT T bs n) (bs n) 0 b = 0
    by_cases e2 : b = bs n
    · rw [e2, gF_s]
    · rw [gF_n e2]
      refine ih b ⟨y, ?_, e⟩
      have : y ≠ n := fun z => e2 (by rw [e, z])
      omega
theorem tdT_out : ∀ n b, (∀ y, y < n → b ≠ bs y) → tdT T bs n b = T b := by
  intro n
  induction n with
  | zero => intro b _; rfl
  | succ n ih =>
    intro b h
    show gF (tdT T bs n) (bs n) 0 b = T b
    rw [gF_n (h n (by omega))]
    exact ih b (fun y hy => h y (by omega))
end
section
variable {SS : Nat → mS} {S' : mS} {t m q c : Nat} {T : Nat → Int}
theorem Gd.inj (hg : Gd SS m) (ht : t < 4) : mInj (SS t) := by
  intro l p l' p' hl hp hl' hp' e
  have hs := (hg.2.1 t ht).1
  by_cases h1 : l < md (SS t)
  · by_cases h2 : l' < md (SS t)
    · exact (hg.2.2.1 _ t l p t l' p' ⟨ht, h1, hp, rfl⟩ ⟨ht, h2, hp', e.symm⟩).2
    · have h3 : l' = md (SS t) := by omega
      subst h3
      have h4 := hs.2.1
      rw [show p' = 0 by omega, hs.2.2.1] at e
      have := (hs.2.2.2.2.1 l h1 p hp).2.2.2
      omega
  · have h3 : l = md (SS t) := by omega
    subst h3
    have h4 := hs.2.1
    by_cases h2 : l' < md (SS t)
    · rw [show p = 0 by omega, hs.2.2.1] at e
      have := (hs.2.2.2.2.1 l' h2 p' hp').2.2.2
      omega
    · have h5 : l' = md (SS t) := by omega
      subst h5
      exact ⟨rfl, by omega⟩
theorem tn_sub (hg : Gd SS m) (ht : t < 4) (hT : Tn SS T) {bs : Nat → Nat} {n : Nat} (hb : ∀ y, y < n → Own (SS t) (bs y)) (ho : ∀ b, Own S' b ↔ Own (SS t) b ∧ ∀ y, y < n → b ≠ bs y) : Tn (gF SS t S') (tdT T bs n) := by
  have own : ∀ b, (∃ t' l p, mOwn (gF SS t S') b t' l p) ↔ (∃ t' l p, mOwn SS b t' l p) ∧ ∀ y, y < n → b ≠ bs y := by
    intro b
    constructor
    · rintro ⟨t', l, p, z1, z2, z3, z4⟩
      by_cases e : t' = t
      · subst e
        rw [gF_s] at z2 z3 z4
        obtain ⟨⟨l', p', w1, w2, w3⟩, w4⟩ := (ho b).mp ⟨l, p, z2, z3, z4⟩
        exact ⟨⟨t', l', p', ht, w1, w2, w3⟩, w4⟩
      · rw [gF_n e] at z2 z3 z4
        refine ⟨⟨t', l, p, z1, z2, z3, z4⟩, fun y hy z => e ?_⟩
        obtain ⟨l', p', w1, w2, w3⟩ := hb y hy
        rw [← z] at w3
        exact (hg.2.2.1 b t' l p t l' p' ⟨z1, z2, z3, z4⟩ ⟨ht, w1, w2, w3⟩).1
    · rintro ⟨⟨t', l, p, z1, z2, z3, z4⟩, w⟩
      by_cases e : t' = t
      · subst e
        obtain ⟨l', p', w1, w2, w3⟩ := (ho b).mpr ⟨⟨l, p, z2, z3, z4⟩, w⟩
        refine ⟨t', l', p', ht, ?_, ?_, ?_⟩ <;> rw [gF_s] <;> assumption
      · refine ⟨t', l, p, z1, ?_, ?_, ?_⟩ <;> rw [gF_n e] <;> assumption
  intro b b1 b2
  by_cases h : ∀ y, y < n → b ≠ bs y
  · rw [tdT_out n b h]
    rcases hT b b1 b2 with ⟨a1, a2⟩ | ⟨a1, a2⟩
    · exact Or.inl ⟨a1, (own b).mpr ⟨a2, h⟩⟩
    · exact Or.inr ⟨a1, fun z => a2 ((own b).mp z).1⟩
  · have h : ∃ y, y < n ∧ b = bs y := by
      refine Classical.byContradiction (fun z => h (fun y hy e => z ⟨y, hy, e⟩))
    exact Or.inr ⟨tdT_in n b h, fun z => by
      obtain ⟨y, y1, y2⟩ := h
      exact ((own b).mp z).2 y y1 y2⟩
theorem lv_fin1 (hs : mSh (SS t) t m) (h : RmC (SS t) q c) (hS : S' = sRm (SS t) q c) {C0 : Nat → Nat → Nat → Nat} (hC1 : ∀ g l, ¬ (g = t ∧ l = c) → C0 g l = CS SS g l) (hC2 : c < md (SS t) → C0 t c = decN (mc (SS t) c) (mQ (SS t) q (c + 1))) :
    md S' = md (SS t) ∧ mc S' (md S') 0 = (if c = md (SS t) then mc (SS t) (md (SS t)) 0 - 1 else mc (SS t) (md (SS t)) 0) ∧ (∀ g l, KS (gF SS t S') g l = dK (KS SS) t c g l) ∧ ∀ g l p, p < dK (KS SS) t c g l → BS (gF SS t S') g l p = dB (BS SS) t c (fun l => mQ (SS t) q (l + 1)) g l p ∧ CS (gF SS t S') g l p = dB C0 t c (fun l => mQ (SS t) q (l + 1)) g l p := by
  obtain ⟨r1, r2, r3, r4⟩ := h
  have z1 : md S' = md (SS t) := by
    rw [hS]
    rfl
  have kS' : ∀ l, KS (gF SS t S') t l = if l < md (SS t) then mK S' l else 0 := by
    intro l
    unfold KS
    rw [gF_s, z1]
  have kk : ∀ g l, KS (gF SS t S') g l = dK (KS SS) t c g l := by
    intro g l
    unfold dK
    by_cases eg : g = t
    · subst eg
      rw [kS']
      by_cases el : l < md (SS g)
      · have k0 : KS SS g l = mK (SS g) l := if_pos el
        rw [if_pos el, k0, hS]
        by_cases e3 : l < c
        · rw [if_pos ⟨rfl, e3⟩, srm_kl e3]
        · rw [if_neg (fun z => e3 z.2), srm_kh (by omega)]
      · have k0 : KS SS g l = 0 := if_neg el
        rw [if_neg el, k0]
        split <;> rfl
    · rw [if_neg (fun z => eg z.1)]
      unfold KS
      rw [gF_n eg]
  refine ⟨z1, ?_, kk, fun g l p hp => ?_⟩
  · rw [z1, hS]
    by_cases e : c = md (SS t)
    · rw [if_pos e, ← e, srm_cc]
      have q0 : mQ (SS t) q (c + 1) = 0 := by
        rw [e]
        exact mQ_top hs r1
      rw [q0, dec_at]
    · rw [if_neg e, srm_ch (by omega)]
  · by_cases eg : g = t
    · subst eg
      rw [← kk, kS'] at hp
      by_cases el : l < md (SS g)
      · have b0 : BS (gF SS g S') g l = mb S' l := by
          unfold BS
          rw [gF_s]
        have c0 : CS (gF SS g S') g l = mc S' l := by
          unfold CS
          rw [gF_s]
        rw [b0, c0, hS]
        unfold dB
        by_cases e3 : l < c
        · rw [if_pos ⟨rfl, e3⟩, if_pos ⟨rfl, e3⟩, srm_bl e3, srm_cl e3, hC1 g l (by omega)]
          exact ⟨rfl, rfl⟩
        · rw [if_neg (fun z => e3 z.2), if_neg (fun z => e3 z.2), srm_bh (by omega)]
          by_cases e4 : l = c
          · subst e4
            rw [srm_cc, hC2 el]
            exact ⟨rfl, rfl⟩
          · rw [srm_ch (by omega), hC1 g l (by omega)]
            exact ⟨rfl, rfl⟩
      · rw [if_neg el] at hp
        exact absurd hp (Nat.not_lt_zero _)
    · have b0 : BS (gF SS t S') g = BS SS g := by
        unfold BS
        rw [gF_n eg]
      have c0 : CS (gF SS t S') g = CS SS g := by
        unfold CS
        rw [gF_n eg]
      unfold dB
      rw [b0, c0, if_neg (fun z => eg z.1), if_neg (fun z => eg z.1), hC1 g l (fun z => eg z.1)]
      exact ⟨rfl, rfl⟩
theorem lv_fin2 (hs : mSh (SS t) t m) (h : EmC (SS t) q) (hS : S' = sE t) :
    md S' = 0 ∧ mc S' (md S') 0 = 0 ∧ (∀ g l, KS (gF SS t S') g l = dK (KS SS) t (md (SS t)) g l) ∧ ∀ g l p, p < dK (KS SS) t (md (SS t)) g l → BS (gF SS t S') g l p = dB (BS SS) t (md (SS t)) (fun l => mQ (SS t) q (l + 1)) g l p ∧ CS (gF SS t S') g l p = dB (CS SS) t (md (SS t)) (fun l => mQ (SS t) q (l + 1)) g l p := by
  have hK := emc_k hs h
  have kz : ∀ l, dK (KS SS) t (md (SS t)) t l = 0 := by
    intro l
    unfold dK
    by_cases el : l < md (SS t)
    · have k0 : KS SS t l = mK (SS t) l := if_pos el
      have := hK (md (SS t) - l) (by omega)
      rw [show md (SS t) - (md (SS t) - l) = l by omega] at this
      rw [if_pos ⟨rfl, el⟩, k0, this]
    · rw [if_neg (fun z => el z.2)]
      exact if_neg el
  refine ⟨by rw [hS]; rfl, by rw [hS]; rfl, fun g l => ?_, fun g l p hp => ?_⟩
  · by_cases eg : g = t
    · subst eg
      rw [kz]
      unfold KS
      rw [gF_s, hS]
      rfl
    · unfold dK
      rw [if_neg (fun z => eg z.1)]
      unfold KS
      rw [gF_n eg]
  · by_cases eg : g = t
    · subst eg
      rw [kz] at hp
      exact absurd hp (Nat.not_lt_zero _)
    · have b0 : BS (gF SS t S') g = BS SS g := by
        unfold BS
        rw [gF_n eg]
      have c0 : CS (gF SS t S') g = CS SS g := by
        unfold CS
        rw [gF_n eg]
      unfold dB
      rw [b0, c0, if_neg (fun z => eg z.1), if_neg (fun z => eg z.1)]
      exact ⟨rfl, rfl⟩
theorem lv_tn (hg : Gd SS m) (ht : t < 4) (hT : Tn SS T) (h : Rm (SS t) t q S') : ∃ a, a ≤ md (SS t) ∧ (∀ y, y < a → mc (SS t) y (mQ (SS t) q (y + 1)) = 1) ∧ Tn (gF SS t S') (tdT T (fun y => mb (SS t) y (mQ (SS t) q (y + 1))) a) ∧ ((RmC (SS t) q a ∧ S' = sRm (SS t) q a) ∨ (EmC (SS t) q ∧ S' = sE t ∧ a = md (SS t))) := by
  have hs := (hg.2.1 t ht).1
  rcases h with ⟨c, hC, rfl⟩ | ⟨hC, rfl⟩
  · refine ⟨c, hC.2.1, hC.2.2.1, tn_sub hg ht hT (fun y hy => ⟨y, _, by have := hC.2.1; omega, (mQ_in hs hC.1 (by have := hC.2.1; omega)).1, rfl⟩) (fun b => srm_own hs (hg.inj ht) hC b), Or.inl ⟨hC, rfl⟩⟩
  · refine ⟨md (SS t), Nat.le_refl _, fun y hy => hC.2 y (by omega), tn_sub hg ht hT (fun y hy => ⟨y, _, hy, (mQ_in hs hC.1 (by omega)).1, rfl⟩) (fun b => ?_), Or.inr ⟨hC, rfl, rfl⟩⟩
    constructor
    · rintro ⟨l, p, z1, _⟩
      exact absurd z1 (Nat.not_lt_zero _)
    · rintro ⟨⟨l, p, z1, z2, z3⟩, w⟩
      have h1 := emc_k hs hC (md (SS t) - l) (by omega)
      rw [show md (SS t) - (md (SS t) - l) = l by omega] at h1
      have h2 := (mQ_in hs hC.1 (show l ≤ md (SS t) by omega)).1
      refine absurd ?_ (w l z1)
      rw [← z3, show mQ (SS t) q (l + 1) = p by omega]
end
