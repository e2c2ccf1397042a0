/-! the reference: leave -/
def sam2 (R Rs : rA) : Prop := R.1 = Rs.1 ∧ R.2.1 = Rs.2.1 ∧ ∀ j, j ≠ 7 → j ≠ 8 → j ≠ 9 → j ≠ 10 → R.2.2 j = Rs.2.2 j
section
variable {G : gG} {N : Option Nat} {h : gH} {R Rs : rA} {SS : Nat → mS} {S' : mS} {t m q a d : Nat} {i : Int} {T : Nat → Int} {K : Nat → Nat → Nat} {B C : Nat → Nat → Nat → Nat} {P : Nat → Nat}
set_option maxHeartbeats 4000000 in
theorem lv_loop {E : gK → State → Prop} (ht : t < 4) (hd : d ≤ 5) (had : a ≤ d) (hP : ∀ l, l < d → P l < K t l) (hY : ∀ l, l < d → zY Rs l = ((256 * l + oF K l t + P l : Nat) : Int)) (hC : ∀ l, l < a → C t l (P l) = 1) (hB : ∀ l, l < d → 1 ≤ B t l (P l) ∧ B t l (P l) ≤ 255)
    (kk : ∀ R', RD R' (dK K t a) (dB B t a P) (dB C t a P) → zT R' = tdT T (fun y => B t y (P y)) a → sam2 R' Rs → Go G m_Mod_leave E 19 [some (vR 541), some (vI t), some (vI i), some (vI d), some (vI 1), some (vI a)] [] N (hrx R' h) 0 0) :
    ∀ (q n : Nat) (j : Int) (R : rA), q + n = a → j = n → RD R (dK K t n) (dB B t n P) (dB C t n P) → zT R = tdT T (fun y => B t y (P y)) n → sam2 R Rs → Go G m_Mod_leave E 19 [some (vR 541), some (vI t), some (vI i), some (vI d), some (vI 1), some (vI j)] [] N (hrx R h) 0 0 := by
  have hM := ok_Mod_leave
  intro q
  induction q with
  | zero =>
    intro n j R e1 e2 r1 r2 r3
    subst e2
    have e1 : n = a := by omega
    subst e1
    exact kk R r1 r2 r3
  | succ q ih =>
    intro n j R e1 e2 r1 r2 r3
    subst e2
    obtain ⟨s1, s2, s3⟩ := r3
    have hl6 : n < 6 := by omega
    have hPn := hP n (by omega)
    have k0 : ∀ g, dK K t n g n = K g n := fun g => if_neg (by omega)
    have b0 : ∀ g, dB B t n P g n = B g n := fun g => if_neg (by omega)
    have c0 : ∀ g, dB C t n P g n = C g n := fun g => if_neg (by omega)
    have o1 : ∀ g, oF (dK K t n) n g = oF K n g := fun g => oF_congr (fun g' _ => k0 g')
    have ole := oF_le (K := K) (l := n) ht
    have ob := r1.1 n hl6
    rw [o1] at ob
    have yv : R.2.2 11 n = ((256 * n + oF K n t + P n : Nat) : Int) := by
      rw [s3 11 (by omega) (by omega) (by omega) (by omega)]
      exact hY n (by omega)
    have ev := (r1.2.2 t ht n hl6 (P n) (by rw [k0]; exact hPn))
    rw [o1, b0, c0, hC n (by omega)] at ev
    have ev8 : R.2.2 8 (256 * n + oF K n t + P n) = 1 := ev.2
    have ra := r1.cnt (g := t) (l := n) (q := P n) (x := 0) ht hl6 (by rw [k0]; exact hPn)
    rw [o1] at ra
    generalize hRa : sR R 8 (gF (zE R) (256 * n + oF K n t + P n) ((0 : Nat) : Int)) = Ra at ra
    have oa : ∀ j, j ≠ 8 → Ra.2.2 j = R.2.2 j := fun j j1 => by
      rw [← hRa]
      exact sR_n j1
    have ea : Ra.2.2 8 (256 * n + oF K n t + P n) = 0 := by
      rw [← hRa, sR_s, gF_s]
      rfl
    obtain ⟨e, he⟩ : ∃ e, e + 1 = 256 * n + oF K n 4 := ⟨256 * n + oF K n 4 - 1, by omega⟩
    have rb := ra.del (g := t) (l := n) (q := P n) (e := e) (T' := gF (zT Ra) (B t n (P n)) 0) ht hl6 (by rw [k0]; exact hPn) (by rw [o1]; exact he)
    rw [o1] at rb
    have lve : lvO Ra 4 n = ((e + 1 : Nat) : Int) := by
      have := ra.lv (g2 := 4) (Nat.le_refl _) hl6
      rw [o1] at this
      rw [this, he]
    have cr := m_removeNode (G := G) (N := N) (h := h) (R := Ra) (f := t) (l := n) (p := 256 * n + oF K n t + P n) (e := e) (b := B t n (P n)) ht hl6 lve (by omega) (by omega) (by
      rw [show zN Ra = zN R from oa 7 (by omega)]
      exact ev.1) (by have := hB n (by omega); omega)
    generalize hRb : sR (sNE (sR Ra 10 (gF (zT Ra) (B t n (P n)) 0)) (shE (zN Ra) (256 * n + oF K n t + P n) e) (shE (zE Ra) (256 * n + oF K n t + P n) e)) 9 (gF (zM Ra) (6 * t + n) (zM Ra (6 * t + n) - 1)) = Rb at rb cr
    have nx := ih (n + 1) ((n : Int) + 1) Rb (by omega) (by omega) (rb.congr (fun g hg l hl => by
      unfold dK
      by_cases e9 : g = t ∧ l = n
      · rw [e9.1, e9.2, uF2_s, if_pos (show t = t ∧ n < n + 1 by omega), if_neg (show ¬ (t = t ∧ n < n) by omega)]
      · have gn : ∀ {α : Type} (f : Nat → Nat → α) (x : α), uF2 f t n x g l = f g l := by
          intro α f x
          by_cases eg : g = t
          · exact uF2_l (fun z => e9 ⟨eg, z⟩)
          · rw [uF2_g eg]
        rw [gn]
        by_cases e8 : g = t ∧ l < n
        · rw [if_pos e8, if_pos (by omega)]
        · rw [if_neg e8, if_neg (by omega)]) (fun g hg l hl p hp => by
      by_cases e9 : g = t ∧ l = n
      · obtain ⟨rfl, rfl⟩ := e9
        rw [uF2_s, uF2_s, uF2_s, b0, c0]
        have q1 : dB B g (l + 1) P g l = delN (B g l) (P l) := if_pos ⟨rfl, by omega⟩
        have q2 : dB C g (l + 1) P g l = delN (C g l) (P l) := if_pos ⟨rfl, by omega⟩
        rw [q1, q2]
        refine ⟨rfl, ?_⟩
        by_cases e8 : p < P l
        · rw [del_lo e8, del_lo e8, gF_n (by omega)]
        · rw [del_hi (by omega), del_hi (by omega), gF_n (by omega)]
      · have gn : ∀ {α : Type} (f : Nat → Nat → α) (x : α), uF2 f t n x g l = f g l := by
          intro α f x
          by_cases eg : g = t
          · exact uF2_l (fun z => e9 ⟨eg, z⟩)
          · rw [uF2_g eg]
        rw [gn, gn, gn]
        unfold dB
        by_cases e8 : g = t ∧ l < n
        · rw [if_pos e8, if_pos e8, if_pos (by omega), if_pos (by omega)]
          exact ⟨rfl, rfl⟩
        · rw [if_neg e8, if_neg e8, if_neg (by omega), if_neg (by omega)]
          exact ⟨rfl, rfl⟩)) (by
      rw [← hRb]
      have z1 : ∀ a b c, zT (sR (sNE (sR Ra 10 c) a b) 9 (gF (zM Ra) (6 * t + n) (zM Ra (6 * t + n) - 1))) = c := fun a b c => (sR_n (by omega)).trans ((sNE_o (by omega) (by omega)).trans sR_s)
      rw [z1, show zT Ra = zT R from oa 10 (by omega), r2]
      rfl) (by
      rw [← hRb]
      refine ⟨?_, ?_, fun j j7 j8 j9 j10 => ?_⟩
      · show Ra.1 = Rs.1
        rw [← hRa]
        exact s1
      · show Ra.2.1 = Rs.2.1
        rw [← hRa]
        exact s2
      · rw [sR_n j9, sNE_o j7 j8, sR_n j10, oa j j8]
        exact s3 j j7 j8 j9 j10)
    have tn : ((n : Nat) : Int).toNat = n := by omega
    have tw : ((256 * n + oF K n t + P n : Nat) : Int).toNat = 256 * n + oF K n t + P n := by omega
    repeat (first | refine go_pure hM rfl ?_ | refine go_get hM rfl hr_o rfl ?_ | refine go_ldc hM rfl ?_)
    refine go_icmp_ge hM rfl (by omega) (by omega) (fun h9 => absurd h9 (by omega)) (fun _ => ?_)
    repeat (first | refine go_pure hM rfl ?_ | refine go_get hM rfl hr_o rfl ?_ | refine go_ldc hM rfl ?_)
    refine go_if_eq hM rfl (by omega) (fun h9 => absurd h9 (by omega)) (fun _ => ?_)
    repeat (first | refine go_pure hM rfl ?_ | refine go_get hM rfl hr_o rfl ?_ | refine go_ldc hM rfl ?_)
    refine go_iald hM rfl hr_Y (by omega) (by omega) (by omega) ?_
    rw [tn, yv]
    refine go_dup2 hM rfl ?_
    refine go_iald hM rfl hr_E (by omega) (by omega) (by omega) ?_
    rw [tw, ev8]
    repeat (first | refine go_pure hM rfl ?_ | refine go_get hM rfl hr_o rfl ?_ | refine go_ldc hM rfl ?_)
    refine go_iast hM rfl hr_E (by omega) (by omega) (by omega) ?_
    rw [tw, ur_E, show (1 : Int) - 1 = ((0 : Nat) : Int) from rfl, hRa]
    repeat (first | refine go_pure hM rfl ?_ | refine go_get hM rfl hr_o rfl ?_ | refine go_ldc hM rfl ?_)
    refine go_iald hM rfl hr_Y (by omega) (by omega) (by omega) ?_
    rw [tn, oa 11 (by omega), yv]
    refine go_iald hM rfl hr_E (by omega) (by omega) (by omega) ?_
    rw [tw, ea]
    refine go_if_ne hM rfl (by omega) (fun h9 => absurd rfl h9) (fun _ => ?_)
    repeat (first | refine go_pure hM rfl ?_ | refine go_get hM rfl hr_o rfl ?_ | refine go_ldc hM rfl ?_)
    refine go_if_eq hM rfl (by omega) (fun h9 => absurd h9 (by omega)) (fun _ => ?_)
    repeat (first | refine go_pure hM rfl ?_ | refine go_get hM rfl hr_o rfl ?_ | refine go_ldc hM rfl ?_)
    refine go_iald hM rfl hr_Y (by omega) (by omega) (by omega) ?_
    rw [tn, oa 11 (by omega), yv]
    refine go_cV hM rfl rfl rfl hr_o rfl cr rfl ?_
    repeat (first | exact nx | refine go_pure hM rfl ?_ | refine go_get hM rfl hr_o rfl ?_ | refine go_ldc hM rfl ?_)
/-- the end of leave: the root -/
theorem lv_tail {Q9 : Option gV → Option Nat → gH → Prop} {X : String → gH → Prop} (ht : t < 4) (hd : d ≤ 5) {r g : Nat} {y : Option gV} (hr : zR R t = (r : Int)) (hr4 : r ≤ 4) (hg : g = 0 ∨ g = 1) (hgr : g ≤ r) (hQ : Q9 none N (hrx (sR (sR R 6 (gF (zR R) t ((r - g : Nat) : Int))) 5 (gF (zD R) t ((if r - g = 0 then 0 else d : Nat) : Int))) h)) : Go G m_Mod_leave (gFin G Q9 X) 93 [some (vR 541), some (vI t), some (vI i), some (vI d), some (vI g), y] [] N (hrx R h) 0 0 := by
  have hM := ok_Mod_leave
  have hr : R.2.2 6 t = (r : Int) := hr
  have tt : ((t : Nat) : Int).toNat = t := by omega
  have zz : (sR R 6 (gF (zR R) t ((r - g : Nat) : Int))).2.2 6 t = ((r - g : Nat) : Int) := by
    rw [sR_s, gF_s]
  have z5 : (sR R 6 (gF (zR R) t ((r - g : Nat) : Int))).2.2 5 = R.2.2 5 := sR_n (by omega)
  have e2 : ∀ z : Int, z = (g : Int) → Go G m_Mod_leave (gFin G Q9 X) 110 [some (vR 541), some (vI t), some (vI i), some (vI d), some (vI g), y] [vI z, vI r, vI t, vR 548] N (hrx R h) 0 0 := by
    intro z hz
    have ez : (r : Int) - z = ((r - g : Nat) : Int) := by omega
    have e3 : ∀ u : Int, u = ((if r - g = 0 then 0 else d : Nat) : Int) → Go G m_Mod_leave (gFin G Q9 X) 131 [some (vR 541), some (vI t), some (vI i), some (vI d), some (vI g), y] [vI u, vI t, vR 547] N (hrx (sR R 6 (gF (zR R) t ((r - g : Nat) : Int))) h) 0 0 := by
      intro u hu
      refine go_iast hM rfl hr_D (by omega) (by omega) (by omega) ?_
      rw [tt, ur_D, z5, hu]
      exact go_vret hM rfl rfl hQ
    refine go_pure hM rfl ?_
    rw [ez]
    refine go_iast hM rfl hr_R (by omega) (by omega) (by omega) ?_
    rw [tt, ur_R]
    repeat (first | refine go_pure hM rfl ?_ | refine go_get hM rfl hr_o rfl ?_ | refine go_ldc hM rfl ?_)
    refine go_iald hM rfl hr_R (by omega) (by omega) (by omega) ?_
    rw [tt]
    have zz : (sR R 6 (gF (R.2.2 6) t ((r - g : Nat) : Int))).2.2 6 t = ((r - g : Nat) : Int) := zz
    rw [zz]
    refine go_if_ne hM rfl (by omega) (fun h9 => ?_) (fun h9 => ?_)
    · have n2 := e3 (d : Int) (by rw [if_neg (by omega)])
      repeat (first | exact n2 | refine go_pure hM rfl ?_ | refine go_get hM rfl hr_o rfl ?_ | refine go_ldc hM rfl ?_)
    · have n2 := e3 0 (by rw [if_pos (by omega)]; rfl)
      repeat (first | exact n2 | refine go_pure hM rfl ?_ | refine go_get hM rfl hr_o rfl ?_ | refine go_ldc hM rfl ?_)
  repeat (first | refine go_pure hM rfl ?_ | refine go_get hM rfl hr_o rfl ?_ | refine go_ldc hM rfl ?_)
  refine go_dup2 hM rfl ?_
  refine go_iald hM rfl hr_R (by omega) (by omega) (by omega) ?_
  rw [tt, hr]
  repeat (first | refine go_pure hM rfl ?_ | refine go_get hM rfl hr_o rfl ?_ | refine go_ldc hM rfl ?_)
  refine go_if_eq hM rfl (by omega) (fun h9 => ?_) (fun h9 => ?_)
  · have n2 := e2 0 (by omega)
    repeat (first | exact n2 | refine go_pure hM rfl ?_ | refine go_get hM rfl hr_o rfl ?_ | refine go_ldc hM rfl ?_)
  · have n2 := e2 1 (by omega)
    repeat (first | exact n2 | refine go_pure hM rfl ?_ | refine go_get hM rfl hr_o rfl ?_ | refine go_ldc hM rfl ?_)
set_option maxHeartbeats 4000000 in
theorem m_leave (hs : RS R SS m) (hg : Gd SS m) (ht : t < 4) (hE : Rm (SS t) t q S') : Rn G m_Mod_leave [vR 541, vI t, vI q] N (hrx R h) 0 0 (fun v N' h' => v = none ∧ N' = N ∧ ∃ R', RS R' (gF SS t S') m ∧ (∀ j, j < 5 → R'.2.2 j = R.2.2 j) ∧ R'.1 = R.1 ∧ h' = hrx R' h) gNo := by
  refine Rn.of rfl rfl rfl ?_
  have hM := ok_Mod_leave
  obtain ⟨s1, s2, s3, s4, s5⟩ := hs
  have hg' := hg
  obtain ⟨hm, hsh', hu, hb4, hbg⟩ := hg'
  have hsh := (hsh' t ht).1
  have hd5 := hsh.1
  obtain ⟨a, a1, a2, a3, a4⟩ := lv_tn hg ht s5 hE
  have hq : q < mn (SS t) := by
    rcases a4 with ⟨z, _⟩ | ⟨z, _⟩ <;> exact z.1
  have hn9 := bg_le (SS := SS) ht
  have hQ : ∀ l, l < md (SS t) → mQ (SS t) q (l + 1) < KS SS t l ∧ sm (CS SS t l) (mQ (SS t) q (l + 1)) ≤ mQ (SS t) q l ∧ mQ (SS t) q l < sm (CS SS t l) (mQ (SS t) q (l + 1)) + CS SS t l (mQ (SS t) q (l + 1)) := by
    intro l hl
    have h3 : KS SS t l = mK (SS t) l := if_pos hl
    rw [h3]
    exact mQ_in hsh hq (by omega)
  have hQr : ∀ l, l ≤ md (SS t) → mQ (SS t) q l ≤ 100000 := by
    intro l hl
    cases l with
    | zero =>
      show q ≤ 100000
      omega
    | succ l =>
      have h1 := (hQ l (by omega)).1
      have h2 := oF_le (K := KS SS) (l := l) ht
      have h3 := hb4 l
      omega
  have fw := m_findWay (G := G) (N := N) (h := h) (Q := mQ (SS t) q) s3 ht hd5 (s2 t ht).1 hQ hQr (fun l hl p hp => by
    have h3 : KS SS t l = mK (SS t) l := if_pos hl
    have := (hsh.2.2.2.2.1 l hl p (by omega)).2.1
    show mc (SS t) l p ≤ 100000
    omega)
  have fw : Rd G m_Mod_findWay [vR 541, vI t, vI q] N (hrx R h) none N (hrx (sWP R (fwY R (KS SS) t (mQ (SS t) q) (md (SS t))) (gF (fwP R (CS SS) t (mQ (SS t) q) (md (SS t))) (md (SS t)) (mQ (SS t) q (md (SS t)) : Int))) h) := fw
  generalize hR2 : sWP R (fwY R (KS SS) t (mQ (SS t) q) (md (SS t))) (gF (fwP R (CS SS) t (mQ (SS t) q) (md (SS t))) (md (SS t)) (mQ (SS t) q (md (SS t)) : Int)) = R2 at fw
  have o2 : ∀ j, j ≠ 11 → j ≠ 12 → R2.2.2 j = R.2.2 j := fun j j1 j2 => by
    rw [← hR2]
    exact sWP_o j1 j2
  have m2 : R2.1 = R.1 ∧ R2.2.1 = (m : Int) := by
    rw [← hR2]
    exact ⟨rfl, s1⟩
  have y2 : ∀ l, l < md (SS t) → zY R2 l = ((256 * l + oF (KS SS) l t + mQ (SS t) q (l + 1) : Nat) : Int) := by
    intro l hl
    rw [← hR2]
    refine (congrFun sWP_11 l).trans ?_
    exact if_pos hl
  have rd2 : RD R2 (KS SS) (BS SS) (CS SS) := by
    refine ⟨s3.1, fun g hg l hl => ?_, fun g hg l hl p hp => ?_⟩
    · rw [show zM R2 = zM R from o2 9 (by omega) (by omega)]
      exact s3.2.1 g hg l hl
    · rw [show zN R2 = zN R from o2 7 (by omega) (by omega), show zE R2 = zE R from o2 8 (by omega) (by omega)]
      exact s3.2.2 g hg l hl p hp
  have D2 : R2.2.2 5 = R.2.2 5 := o2 5 (by omega) (by omega)
  have E2 : R2.2.2 6 = R.2.2 6 := o2 6 (by omega) (by omega)
  have D0 : R.2.2 5 t = (md (SS t) : Int) := (s2 t ht).1
  have R0 : R.2.2 6 t = (mc (SS t) (md (SS t)) 0 : Int) := (s2 t ht).2
  have hr4 := hsh.2.2.2.2.2.1
  have bs0 : ∀ b0, zT R b0 = 1 → (∀ y, y < a → b0 ≠ mb (SS t) y (mQ (SS t) q (y + 1))) → tdT (zT R) (fun y => mb (SS t) y (mQ (SS t) q (y + 1))) a b0 = 1 := fun b0 z1 z2 => by
    rw [tdT_out a b0 z2]
    exact z1
  have t0 : tdT (zT R) (fun y => mb (SS t) y (mQ (SS t) q (y + 1))) a 0 = 1 := bs0 0 s4 (fun y hy => by
    have h1 := (hQ y (by omega)).1
    have h3 : KS SS t y = mK (SS t) y := if_pos (by omega)
    have := (hsh.2.2.2.2.1 y (by omega) _ (show mQ (SS t) q (y + 1) < mK (SS t) y by omega)).2.2.1
    omega)
  -- the end
  have fin : ∀ (R4 : rA) (g : Nat) (C0 : Nat → Nat → Nat → Nat) (y : Option gV), (g = 0 ∨ g = 1) → g ≤ mc (SS t) (md (SS t)) 0 → RD R4 (dK (KS SS) t a) (dB (BS SS) t a (fun l => mQ (SS t) q (l + 1))) C0 → zT R4 = tdT (zT R) (fun y => mb (SS t) y (mQ (SS t) q (y + 1))) a → sam2 R4 R2 → (∀ g l, KS (gF SS t S') g l = dK (KS SS) t a g l) → (∀ g l p, p < dK (KS SS) t a g l → BS (gF SS t S') g l p = dB (BS SS) t a (fun l => mQ (SS t) q (l + 1)) g l p ∧ CS (gF SS t S') g l p = C0 g l p) → md S' = (if mc (SS t) (md (SS t)) 0 - g = 0 then 0 else md (SS t)) → mc S' (md S') 0 = mc (SS t) (md (SS t)) 0 - g → Go G m_Mod_leave (gFin G (fun v N' h' => v = none ∧ N' = N ∧ ∃ R', RS R' (gF SS t S') m ∧ (∀ j, j < 5 → R'.2.2 j = R.2.2 j) ∧ R'.1 = R.1 ∧ h' = hrx R' h) gNo) 93 [some (vR 541), some (vI t), some (vI q), some (vI (md (SS t))), some (vI g), y] [] N (hrx R4 h) 0 0 := by
    intro R4 g C0 y g01 gr r4 t4 sm4 fK fB f1 f2
    obtain ⟨u1, u2, u3⟩ := sm4
    have q5 : R4.2.2 5 = R.2.2 5 := (u3 5 (by omega) (by omega) (by omega) (by omega)).trans D2
    have q6 : R4.2.2 6 = R.2.2 6 := (u3 6 (by omega) (by omega) (by omega) (by omega)).trans E2
    refine lv_tail ht hd5 (r := mc (SS t) (md (SS t)) 0) (by rw [show zR R4 = zR R from q6]; exact R0) hr4 g01 gr ⟨rfl, rfl, _, ⟨?_, fun g9 hg9 => ?_, ?_, ?_, ?_⟩, fun j hj => ?_, ?_, rfl⟩
    · show R4.2.1 = _
      rw [u2]
      exact m2.2
    · have w5 : ∀ f f', zD (sR (sR R4 6 f) 5 f') = f' := fun f f' => sR_s
      have w6 : ∀ f f', zR (sR (sR R4 6 f) 5 f') = f := fun f f' => (sR_n (by omega)).trans sR_s
      rw [w5, w6]
      by_cases eg : g9 = t
      · subst eg
        rw [gF_s, gF_s, gF_s, f2, f1]
        exact ⟨rfl, rfl⟩
      · rw [gF_n eg, gF_n eg, gF_n eg, show zD R4 = zD R from q5, show zR R4 = zR R from q6]
        exact s2 g9 hg9
    · have r5 : RD R4 (KS (gF SS t S')) (BS (gF SS t S')) (CS (gF SS t S')) := r4.congr (fun g hg l hl => fK g l) (fun g hg l hl p hp => fB g l p hp)
      refine ⟨r5.1, fun g hg l hl => ?_, fun g hg l hl p hp => ?_⟩
      · have w9 : ∀ f f', zM (sR (sR R4 6 f) 5 f') = zM R4 := fun f f' => (sR_n (by omega)).trans (sR_n (by omega))
        rw [w9]
        exact r5.2.1 g hg l hl
      · have w7 : ∀ f f', zN (sR (sR R4 6 f) 5 f') = zN R4 := fun f f' => (sR_n (by omega)).trans (sR_n (by omega))
        have w8 : ∀ f f', zE (sR (sR R4 6 f) 5 f') = zE R4 := fun f f' => (sR_n (by omega)).trans (sR_n (by omega))
        rw [w7, w8]
        exact r5.2.2 g hg l hl p hp
    · have w10 : ∀ f f', zT (sR (sR R4 6 f) 5 f') = zT R4 := fun f f' => (sR_n (by omega)).trans (sR_n (by omega))
      rw [w10, t4]
      exact t0
    · have w10 : ∀ f f', zT (sR (sR R4 6 f) 5 f') = zT R4 := fun f f' => (sR_n (by omega)).trans (sR_n (by omega))
      rw [w10, t4]
      exact a3
    · rw [sR_n (by omega), sR_n (by omega), u3 j (by omega) (by omega) (by omega) (by omega), o2 j (by omega) (by omega)]
    · show R4.1 = R.1
      rw [u1]
      exact m2.1
  have lp := lv_loop (G := G) (N := N) (h := h) (Rs := R2) (T := zT R) (K := KS SS) (B := BS SS) (C := CS SS) (P := fun l => mQ (SS t) q (l + 1)) (i := (q : Int)) (E := gFin G (fun v N' h' => v = none ∧ N' = N ∧ ∃ R', RS R' (gF SS t S') m ∧ (∀ j, j < 5 → R'.2.2 j = R.2.2 j) ∧ R'.1 = R.1 ∧ h' = hrx R' h) gNo) ht hd5 a1 (fun l hl => (hQ l hl).1) y2 a2 (fun l hl => by
    have h3 : KS SS t l = mK (SS t) l := if_pos hl
    have h1 := (hQ l hl).1
    have := (hsh.2.2.2.2.1 l hl _ (show mQ (SS t) q (l + 1) < mK (SS t) l by omega)).2.2
    exact this) (fun R' r1 r2 r3 => by
    rcases a4 with ⟨hC, hS⟩ | ⟨hC, hS, had⟩
    · by_cases hca : a < md (SS t)
      · obtain ⟨u1, u2, u3⟩ := r3
        have hl6 : a < 6 := by omega
        have hPn := (hQ a hca).1
        have k0 : ∀ g, dK (KS SS) t a g a = KS SS g a := fun g => if_neg (by omega)
        have c0 : dB (CS SS) t a (fun l => mQ (SS t) q (l + 1)) t a = CS SS t a := if_neg (by omega)
        have o1 : ∀ g, oF (dK (KS SS) t a) a g = oF (KS SS) a g := fun g => oF_congr (fun g' _ => k0 g')
        have ole := oF_le (K := KS SS) (l := a) ht
        have ob := hb4 a
        have yv : R'.2.2 11 a = ((256 * a + oF (KS SS) a t + mQ (SS t) q (a + 1) : Nat) : Int) := by
          rw [u3 11 (by omega) (by omega) (by omega) (by omega)]
          exact y2 a hca
        have ev := (r1.2.2 t ht a hl6 (mQ (SS t) q (a + 1)) (by rw [k0]; exact hPn)).2
        rw [o1, c0] at ev
        have ev : R'.2.2 8 (256 * a + oF (KS SS) a t + mQ (SS t) q (a + 1)) = (mc (SS t) a (mQ (SS t) q (a + 1)) : Int) := ev
        have c2 := hC.2.2.2
        have cb := (hsh.2.2.2.2.1 a hca _ (show mQ (SS t) q (a + 1) < mK (SS t) a by
          have h3 : KS SS t a = mK (SS t) a := if_pos hca
          omega)).2.1
        have ra := r1.cnt (g := t) (l := a) (q := mQ (SS t) q (a + 1)) (x := mc (SS t) a (mQ (SS t) q (a + 1)) - 1) ht hl6 (by rw [k0]; exact hPn)
        rw [o1, c0] at ra
        generalize hRa : sR R' 8 (gF (zE R') (256 * a + oF (KS SS) a t + mQ (SS t) q (a + 1)) ((mc (SS t) a (mQ (SS t) q (a + 1)) - 1 : Nat) : Int)) = Ra at ra
        have oa : ∀ j, j ≠ 8 → Ra.2.2 j = R'.2.2 j := fun j j1 => by
          rw [← hRa]
          exact sR_n j1
        have ea : Ra.2.2 8 (256 * a + oF (KS SS) a t + mQ (SS t) q (a + 1)) = ((mc (SS t) a (mQ (SS t) q (a + 1)) - 1 : Nat) : Int) := by
          rw [← hRa, sR_s, gF_s]
        obtain ⟨w1, w2, w3, w4⟩ := lv_fin1 (C0 := uF2 (CS SS) t a (decN (mc (SS t) a) (mQ (SS t) q (a + 1)))) hsh hC hS (fun g l hgl => by
          by_cases eg : g = t
          · exact uF2_l (fun z => hgl ⟨eg, z⟩)
          · rw [uF2_g eg]) (fun _ => uF2_s)
        have root1 : 1 ≤ mc (SS t) (md (SS t)) 0 := hsh.2.2.2.2.2.2 (by omega)
        have f9 := fun y => fin Ra 0 _ y (Or.inl rfl) (Nat.zero_le _) ra (by rw [show zT Ra = zT R' from oa 10 (by omega)]; exact r2) (by
          refine ⟨?_, ?_, fun j j7 j8 j9 j10 => by rw [oa j j8]; exact u3 j j7 j8 j9 j10⟩
          · rw [← hRa]
            exact u1
          · rw [← hRa]
            exact u2) w3 (fun g l p hp => by
          refine ⟨(w4 g l p hp).1, (w4 g l p hp).2.trans ?_⟩
          unfold dB
          by_cases e9 : g = t ∧ l = a
          · rw [e9.1, e9.2, if_neg (show ¬ (t = t ∧ a < a) by omega), uF2_s, uF2_s]
            rfl
          · have gn : ∀ {α : Type} (f : Nat → Nat → α) (x : α), uF2 f t a x g l = f g l := by
              intro α f x
              by_cases eg : g = t
              · exact uF2_l (fun z => e9 ⟨eg, z⟩)
              · rw [uF2_g eg]
            rw [gn, gn]) (by rw [w1, Nat.sub_zero, if_neg (by omega)]) (by rw [w2, if_neg (by omega), Nat.sub_zero])
        have tn : ((a : Nat) : Int).toNat = a := by omega
        have tw : ((256 * a + oF (KS SS) a t + mQ (SS t) q (a + 1) : Nat) : Int).toNat = 256 * a + oF (KS SS) a t + mQ (SS t) q (a + 1) := by omega
        repeat (first | refine go_pure hM rfl ?_ | refine go_get hM rfl hr_o rfl ?_ | refine go_ldc hM rfl ?_)
        refine go_icmp_ge hM rfl (by omega) (by omega) (fun h9 => absurd h9 (by omega)) (fun _ => ?_)
        repeat (first | refine go_pure hM rfl ?_ | refine go_get hM rfl hr_o rfl ?_ | refine go_ldc hM rfl ?_)
        refine go_if_eq hM rfl (by omega) (fun h9 => absurd h9 (by omega)) (fun _ => ?_)
        repeat (first | refine go_pure hM rfl ?_ | refine go_get hM rfl hr_o rfl ?_ | refine go_ldc hM rfl ?_)
        refine go_iald hM rfl hr_Y (by omega) (by omega) (by omega) ?_
        rw [tn, yv]
        refine go_dup2 hM rfl ?_
        refine go_iald hM rfl hr_E (by omega) (by omega) (by omega) ?_
        rw [tw, ev]
        repeat (first | refine go_pure hM rfl ?_ | refine go_get hM rfl hr_o rfl ?_ | refine go_ldc hM rfl ?_)
        refine go_iast hM rfl hr_E (by omega) (by omega) (by omega) ?_
        rw [tw, ur_E, show ((mc (SS t) a (mQ (SS t) q (a + 1)) : Nat) : Int) - 1 = ((mc (SS t) a (mQ (SS t) q (a + 1)) - 1 : Nat) : Int) by omega, hRa]
        repeat (first | refine go_pure hM rfl ?_ | refine go_get hM rfl hr_o rfl ?_ | refine go_ldc hM rfl ?_)
        refine go_iald hM rfl hr_Y (by omega) (by omega) (by omega) ?_
        rw [tn, oa 11 (by omega), yv]
        refine go_iald hM rfl hr_E (by omega) (by omega) (by omega) ?_
        rw [tw, ea]
        refine go_if_ne hM rfl (by omega) (fun _ => ?_) (fun h9 => absurd h9 (by omega))
        repeat (first | refine go_pure hM rfl ?_ | refine go_get hM rfl hr_o rfl ?_ | refine go_ldc hM rfl ?_)
        refine go_if_eq hM rfl (by omega) (fun _ => ?_) (fun h9 => absurd rfl h9)
        repeat (first | refine go_pure hM rfl ?_ | refine go_get hM rfl hr_o rfl ?_ | refine go_ldc hM rfl ?_)
        refine go_icmp_ge hM rfl (by omega) (by omega) (fun _ => f9 _) (fun _ => ?_)
        repeat (first | refine go_pure hM rfl ?_ | refine go_get hM rfl hr_o rfl ?_ | refine go_ldc hM rfl ?_)
        exact go_if_eq hM rfl (by omega) (fun _ => f9 _) (fun h9 => absurd rfl h9)
      · have had : a = md (SS t) := by omega
        obtain ⟨w1, w2, w3, w4⟩ := lv_fin1 (C0 := CS SS) hsh hC hS (fun g l _ => rfl) (fun h9 => absurd h9 hca)
        have c2 := hC.2.2.2
        rw [had, mQ_top hsh hq] at c2
        have f9 := fin R' 1 _ (some (vI a)) (Or.inr rfl) (by omega) r1 r2 r3 w3 w4 (by rw [w1, if_neg (by omega)]) (by rw [w2, if_pos had])
        repeat (first | refine go_pure hM rfl ?_ | refine go_get hM rfl hr_o rfl ?_ | refine go_ldc hM rfl ?_)
        refine go_icmp_ge hM rfl (by omega) (by omega) (fun _ => f9) (fun h9 => absurd h9 (by omega))
    · obtain ⟨w1, w2, w3, w4⟩ := lv_fin2 hsh hC hS
      rw [← had] at w3 w4
      have c2 := hC.2 (md (SS t)) (Nat.le_refl _)
      rw [mQ_top hsh hq] at c2
      have f9 := fin R' 1 _ (some (vI a)) (Or.inr rfl) (by omega) r1 r2 r3 w3 w4 (by rw [w1, if_pos (by omega)]) (by rw [w2]; omega)
      repeat (first | refine go_pure hM rfl ?_ | refine go_get hM rfl hr_o rfl ?_ | refine go_ldc hM rfl ?_)
      refine go_icmp_ge hM rfl (by omega) (by omega) (fun _ => f9) (fun h9 => absurd h9 (by omega))) a 0 0 R2 (by omega) rfl (rd2.congr (fun g hg l hl => if_neg (by omega)) (fun g hg l hl p hp => by
      have q1 : dB (BS SS) t 0 (fun l => mQ (SS t) q (l + 1)) g l = BS SS g l := if_neg (by omega)
      have q2 : dB (CS SS) t 0 (fun l => mQ (SS t) q (l + 1)) g l = CS SS g l := if_neg (by omega)
      rw [q1, q2]
      exact ⟨rfl, rfl⟩)) (o2 10 (by omega) (by omega)) ⟨rfl, rfl, fun j _ _ _ _ => rfl⟩
  repeat (first | refine go_pure hM rfl ?_ | refine go_get hM rfl hr_o rfl ?_ | refine go_ldc hM rfl ?_)
  refine go_cV hM rfl rfl rfl hr_o rfl fw rfl ?_
  repeat (first | refine go_pure hM rfl ?_ | refine go_get hM rfl hr_o rfl ?_ | refine go_ldc hM rfl ?_)
  refine go_iald hM rfl hr_D (by omega) (by omega) (by omega) ?_
  rw [show ((t : Nat) : Int).toNat = t by omega, D2, D0]
  repeat (first | exact lp | refine go_pure hM rfl ?_ | refine go_get hM rfl hr_o rfl ?_ | refine go_ldc hM rfl ?_)
end
