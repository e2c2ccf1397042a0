/-! the reference: takeOut -/
section
variable {SS SS' : Nat → mS} {m t q fu : Nat} {x n v w e a o : Int}
theorem Gd.set (hg : Gd SS m) (ht : t < 4) (hr : mRn (sSet (SS t) q x n v w)) : Gd (gF SS t (sSet (SS t) q x n v w)) m := by
  obtain ⟨h1, h2, h3, h4, h5⟩ := hg
  have st := str_g (SS := SS) (t := t) (S' := sSet (SS t) q x n v w) ⟨rfl, rfl, rfl, rfl⟩
  have kE : KS (gF SS t (sSet (SS t) q x n v w)) = KS SS := by
    funext g l
    unfold KS
    rw [(st g).1, (st g).2.1]
  have oE : ∀ b t9 l p, mOwn (gF SS t (sSet (SS t) q x n v w)) b t9 l p ↔ mOwn SS b t9 l p := by
    intro b t9 l p
    unfold mOwn
    rw [(st t9).1, (st t9).2.1, (st t9).2.2.1]
  refine ⟨h1, fun g hg => ?_, fun b t1 l p t2 l2 p2 z1 z2 => h3 b t1 l p t2 l2 p2 ((oE _ _ _ _).mp z1) ((oE _ _ _ _).mp z2), fun l => by rw [kE]; exact h4 l, by rw [bg_eq (SS := SS) (t := t) (S' := sSet (SS t) q x n v w) rfl]; exact h5⟩
  by_cases eg : g = t
  · subst eg
    rw [gF_s]
    exact ⟨(h2 g hg).1, hr⟩
  · rw [gF_n eg]
    exact h2 g hg
theorem TO_gd : ∀ fu (SS : Nat → mS) (a : Int) (SS' : Nat → mS) (o : Int), Gd SS m → TO t m e fu SS a SS' o → Gd SS' m := by
  intro fu
  induction fu with
  | zero => intro SS a SS' o _ h; exact h.elim
  | succ fu ih =>
    intro SS a SS' o hg h
    rcases h with ⟨_, h2, _⟩ | ⟨_, k, _, h2⟩ | ⟨_, q, S1, n, o1, _, _, _, _, _, h2, h3, _⟩
    · rw [h2]
      exact hg
    · exact ih _ _ _ _ hg h2
    · exact ih _ _ _ _ h2 h3
end
section
variable {G : gG} {N : Option Nat} {h : gH} {R : rA} {SS SS' : Nat → mS} {S' : mS} {t m fu : Nat} {x n e o : Int}
/-- where the loop stands -/
def toI (S : mS) (q : Nat) (x e a : Int) : Prop := (Bh S q a ∧ (a = x ∨ (q < mn S → a ≤ ms S q))) ∨ (e ≤ a ∧ q ≤ mn S ∧ (q < mn S → e ≤ ms S q))
theorem RR.eqv {V : mS} (hr : RR R (gF SS t V)) (ht : t < 4) (hn : mn S' = mn V) (hS : ∀ i, i < mn V → ms S' i = ms V i ∧ ml S' i = ml V i ∧ mv S' i = mv V i ∧ mw S' i = mw V i) : RR R (gF SS t S') := by
  have := RR.congr (R' := R) (S' := S') (t := t) hr (by rw [gF_s]; exact hn) ht (by rw [gF_s]; exact hS) (fun j _ => rfl)
  rw [gF_uu] at this
  exact this
set_option maxRecDepth 8000 in
set_option maxHeartbeats 8000000 in
theorem to_loop {Q9 : Option gV → Option Nat → gH → Prop} {X : String → gH → Prop} (ht : t < 4) (hx : 0 ≤ x) (hn : 1 ≤ n) (he : x + n ≤ 65536) : ∀ (fu : Nat) (SS : Nat → mS) (R : rA) (a : Int) (SS' : Nat → mS) (o c : Int) (q : Nat) (y7 y8 y9 y10 : Option gV), TO t m (x + n) fu SS a SS' o → RX R SS m → Gd SS m → x ≤ a → toI (SS t) q x (x + n) a → (∀ R', RX R' SS' m → R'.1 = R.1 → Q9 (some (vI (c + o))) none (hrx R' h)) →
    Go G m_Mod_takeOut (gFin G Q9 X) 16 [some (vR 541), some (vI t), some (vI x), some (vI n), some (vI (x + n)), some (vI c), some (vI ((bg SS t + q : Nat) : Int)), y7, y8, y9, y10] [] none (hrx R h) 0 0 := by
  have hM := ok_Mod_takeOut
  intro fu
  induction fu with
  | zero => intro SS R a SS' o c q y7 y8 y9 y10 hT; exact hT.elim
  | succ fu ih =>
    intro SS R a SS' o c q y7 y8 y9 y10 hT hRX hg hxa hI hQ
    obtain ⟨hs, hr⟩ := hRX
    have hnn := (hg.2.1 t ht).2
    have hsh := (hg.2.1 t ht).1
    have hr' := hr
    obtain ⟨r1, r2, r3⟩ := hr'
    have bt := bg_le (SS := SS) ht
    have b1 : R.2.2 0 t = ((bg SS t : Nat) : Int) := r2 t (by omega)
    have b2 : R.2.2 0 (t + 1) = ((bg SS t + mn (SS t) : Nat) : Int) := r2 (t + 1) (by omega)
    have tt : ((t : Nat) : Int).toNat = t := by omega
    have tt1 : (((t : Nat) : Int) + 1).toNat = t + 1 := by omega
    have qle : q ≤ mn (SS t) := by
      rcases hI with ⟨z, _⟩ | ⟨_, z, _⟩
      · exact z.1
      · exact z
    have tq : ((bg SS t + q : Nat) : Int).toNat = bg SS t + q := by omega
    have rd : ∀ p, p < mn (SS t) → R.2.2 1 (bg SS t + p) = ms (SS t) p ∧ R.2.2 2 (bg SS t + p) = ml (SS t) p ∧ R.2.2 3 (bg SS t + p) = mv (SS t) p ∧ R.2.2 4 (bg SS t + p) = mw (SS t) p := r3 t ht
    have same : ∀ (f : Nat → Int) (j : Nat), f = gF f j (f j) := fun f j => (gF_same f j).symm
    rcases hT with ⟨t1, t2, t3⟩ | ⟨t1, k, t2, t3⟩ | ⟨t1, q2, S1, n1, o1, t2, t3, t4, t5, t6, t7, t8, t9⟩
    · -- all is out
      have ex : Go G m_Mod_takeOut (gFin G Q9 X) 317 [some (vR 541), some (vI t), some (vI x), some (vI n), some (vI (x + n)), some (vI c), some (vI ((bg SS t + q : Nat) : Int)), y7, y8, y9, y10] [] none (hrx R h) 0 0 := by
        have := hQ R (by rw [t2]; exact ⟨hs, hr⟩) rfl
        rw [t3, Int.add_zero] at this
        repeat (first | refine go_pure hM rfl ?_ | refine go_get hM rfl hr_o rfl ?_ | refine go_ldc hM rfl ?_)
        exact go_iret hM rfl rfl this
      repeat (first | refine go_pure hM rfl ?_ | refine go_get hM rfl hr_o rfl ?_ | refine go_ldc hM rfl ?_)
      refine go_iald hM rfl hr_B (by omega) (by omega) (by omega) ?_
      rw [tt1, b2]
      refine go_icmp_ge hM rfl (by omega) (by omega) (fun _ => ex) (fun h9 => ?_)
      obtain ⟨d1, -⟩ := rd q (by omega)
      have c0 := hnn.1 q (by omega)
      repeat (first | refine go_pure hM rfl ?_ | refine go_get hM rfl hr_o rfl ?_ | refine go_ldc hM rfl ?_)
      refine go_iald hM rfl hr_S (by omega) (by omega) (by omega) ?_
      rw [tq, d1]
      repeat (first | refine go_pure hM rfl ?_ | refine go_get hM rfl hr_o rfl ?_ | refine go_ldc hM rfl ?_)
      refine go_icmp_ge hM rfl (by omega) (by omega) (fun _ => ex) (fun h8 => ?_)
      exfalso
      rcases hI with ⟨_, z | z⟩ | ⟨_, _, z⟩
      · omega
      · have := z (by omega)
        omega
      · have := z (by omega)
        omega
    · -- a gap
      rcases hI with ⟨z1, z2⟩ | ⟨z, _⟩
      · have hk : Bh (SS t) k a := ⟨t2.1, t2.2.1, fun p p1 p2 => by
          have g1 := t2.2.2 p p1 p2
          have g2 := (hnn.1 p p2).2.1
          omega⟩
        have hqk := bh_un z1 hk
        subst hqk
        refine ih SS R _ SS' o c q y7 y8 y9 y10 t3 ⟨hs, hr⟩ hg ?_ (Or.inl ⟨⟨qle, fun p hp => ?_, fun p p1 p2 => ?_⟩, Or.inr (fun h9 => ?_)⟩) hQ
        · split
          · rename_i h9
            have := t2.2.2 q (Nat.le_refl _) h9
            omega
          · omega
        · split
          · rename_i h9
            exact hnn.mono hp h9
          · exact (hnn.1 p (by omega)).2.2.1
        · rw [if_pos (by omega)]
          have g2 := (hnn.1 p p2).2.1
          by_cases e9 : p = q
          · rw [e9] at g2 ⊢
            omega
          · have := hnn.lt (show q < p by omega) p2
            omega
        · rw [if_pos h9]
          exact Int.le_refl _
      · omega
    · -- blocks of a run
      rcases hI with ⟨z1, z2⟩ | ⟨z, _⟩
      · have hk : Bh (SS t) q2 a := ⟨by omega, fun p hp => by
          have := hnn.mono hp t2
          omega, fun p p1 p2 => by
          have := hnn.ends p1 p2
          omega⟩
        have hqk := bh_un z1 hk
        subst hqk
        obtain ⟨d1, d2, d3, d4⟩ := rd q t2
        have c0 := hnn.1 q t2
        obtain ⟨c1, c2, c3, c4, c5, c6, c7⟩ := c0
        have hfrom : (ms (SS t) q < x → a = x) ∧ (¬ ms (SS t) q < x → a = ms (SS t) q) := by
          rcases z2 with z2 | z2
          · exact ⟨fun _ => z2, fun h9 => by omega⟩
          · have := z2 t2
            exact ⟨fun h9 => by omega, fun h9 => by omega⟩
        have hn1 : 1 ≤ n1 ∧ a + n1 ≤ ms (SS t) q + ml (SS t) q ∧ a + n1 ≤ x + n ∧ (a + n1 = x + n ∨ a + n1 = ms (SS t) q + ml (SS t) q) := by
          split at t5 <;> omega
        have QQ : ∀ R', RX R' SS' m → R'.1 = R.1 → Q9 (some (vI (c + n1 + o1))) none (hrx R' h) := fun R' u1 u2 => by
          have := hQ R' u1 u2
          rw [t9, ← Int.add_assoc] at this
          exact this
        have go63 : Go G m_Mod_takeOut (gFin G Q9 X) 98 [some (vR 541), some (vI t), some (vI x), some (vI n), some (vI (x + n)), some (vI c), some (vI ((bg SS t + q : Nat) : Int)), some (vI a), some (vI (ms (SS t) q + ml (SS t) q)), some (vI (a + n1)), y10] [] none (hrx R h) 0 0 := by
          have go204 : ¬ (ms (SS t) q < a ∧ a + n1 < ms (SS t) q + ml (SS t) q) → Go G m_Mod_takeOut (gFin G Q9 X) 204 [some (vR 541), some (vI t), some (vI x), some (vI n), some (vI (x + n)), some (vI (c + n1)), some (vI ((bg SS t + q : Nat) : Int)), some (vI a), some (vI (ms (SS t) q + ml (SS t) q)), some (vI (a + n1)), y10] [] none (hrx R h) 0 0 := by
            intro hno
            repeat (first | refine go_pure hM rfl ?_ | refine go_get hM rfl hr_o rfl ?_ | refine go_ldc hM rfl ?_)
            refine go_iald hM rfl hr_S (by omega) (by omega) (by omega) ?_
            rw [tq, d1]
            refine go_icmp_le hM rfl (by omega) (by omega) (fun h9 => ?_) (fun h9 => ?_)
            · have ha : a = ms (SS t) q := by omega
              repeat (first | refine go_pure hM rfl ?_ | refine go_get hM rfl hr_o rfl ?_ | refine go_ldc hM rfl ?_)
              refine go_icmp_ge hM rfl (by omega) (by omega) (fun h8 => ?_) (fun h8 => ?_)
              · -- all of the run
                have e9 : a + n1 = ms (SS t) q + ml (SS t) q := by omega
                have hRm : Rm (SS t) t q S1 := by
                  rcases t6 with ⟨_, _, z⟩ | ⟨_, z, _⟩ | ⟨z, _⟩ | ⟨z, _⟩
                  · exact z
                  · omega
                  · omega
                  · omega
                obtain ⟨g1, g2, g3⟩ := hRm.runs hsh
                have lv := m_leave (G := G) (N := none) (h := h) hs hg ht hRm
                repeat (first | refine go_pure hM rfl ?_ | refine go_get hM rfl hr_o rfl ?_ | refine go_ldc hM rfl ?_)
                refine go_iald hM rfl hr_B (by omega) (by omega) (by omega) ?_
                rw [tt, b1]
                repeat (first | refine go_pure hM rfl ?_ | refine go_get hM rfl hr_o rfl ?_ | refine go_ldc hM rfl ?_)
                rw [show ((bg SS t + q : Nat) : Int) - ((bg SS t : Nat) : Int) = (q : Int) by omega]
                refine go_callV (mc := 0) (ms := 0) hM rfl rfl rfl hr_o rfl lv rfl (fun v9 N9 h9 hq => ?_) (fun _ _ q => q.elim)
                obtain ⟨rfl, rfl, R2, u1, u2, u3, rfl⟩ := hq
                have rr2 := hr.same u2
                have b9 : zB R2 4 = ((bg SS 4 : Nat) : Int) := rr2.2.1 4 (Nat.le_refl _)
                have rm := m_removeRun0 (G := G) (N := none) (h := h) (R := R2) (at9 := bg SS t + q) (e := bg SS 4) ht b9 (by omega) (by omega) (rr2.w01 (fun g hg9 => (hg.2.1 g hg9).2))
                have del := rr2.del (k := q) (S' := S1) ht t2 g2 g3
                repeat (first | refine go_pure hM rfl ?_ | refine go_get hM rfl hr_o rfl ?_ | refine go_ldc hM rfl ?_)
                refine go_cV hM rfl rfl rfl hr_o rfl rm rfl ?_
                have dn := bg_dn (SS := SS) (t := t) (S' := S1) g2 t
                rw [if_neg (by omega), Nat.add_zero] at dn
                have nx := ih (gF SS t S1) _ (a + n1) SS' o1 (c + n1) q (some (vI a)) (some (vI (ms (SS t) q + ml (SS t) q))) (some (vI (a + n1))) y10 t8 ⟨u1.mv (R' := sR (sRu R2 (shG (zS R2) (bg SS t + q + 1) (bg SS t + q) (bg SS 4 - (bg SS t + q + 1))) (shG (zL R2) (bg SS t + q + 1) (bg SS t + q) (bg SS 4 - (bg SS t + q + 1))) (shG (zV R2) (bg SS t + q + 1) (bg SS t + q) (bg SS 4 - (bg SS t + q + 1))) (shG (zW R2) (bg SS t + q + 1) (bg SS t + q) (bg SS 4 - (bg SS t + q + 1)))) 0 (bgI (zB R2) t 5 (-1))) (fun j hj => by rw [sR_n (by omega), sRu_o (Or.inr hj)]) rfl (fun g => ⟨rfl, rfl, rfl, rfl⟩), del⟩ t7 (by omega) (Or.inl (by
                  rw [gF_s]
                  refine ⟨⟨by omega, fun p hp => ?_, fun p p1 p2 => ?_⟩, Or.inr (fun h7 => ?_)⟩
                  · obtain ⟨i1, i2, -⟩ := g3 p (by omega)
                    rw [i1, i2, del_lo hp, del_lo hp]
                    have := hnn.mono hp t2
                    omega
                  · obtain ⟨i1, i2, -⟩ := g3 p p2
                    rw [i1, i2, del_hi p1, del_hi p1]
                    have k1 := hnn.mono (show q < p + 1 by omega) (by omega)
                    have k2 := (hnn.1 (p + 1) (by omega)).2.1
                    omega
                  · rw [(g3 q h7).1, del_hi (Nat.le_refl _)]
                    have := hnn.mono (show q < q + 1 by omega) (by omega)
                    omega)) (fun R' v1 v2 => QQ R' v1 (v2.trans u3))
                rw [dn] at nx
                repeat (first | exact nx | refine go_pure hM rfl ?_ | refine go_get hM rfl hr_o rfl ?_ | refine go_ldc hM rfl ?_)
              · -- its front
                have hS1 : S1 = sSet (SS t) q (a + n1) (ms (SS t) q + ml (SS t) q - a - n1) (mv (SS t) q + (a - ms (SS t) q) + n1) (mw (SS t) q) := by
                  rcases t6 with ⟨_, z, _⟩ | ⟨_, _, z⟩ | ⟨z, _⟩ | ⟨z, _⟩
                  · omega
                  · exact z
                  · omega
                  · omega
                have nx := fun R9 rx hR9 => ih (gF SS t S1) R9 (a + n1) SS' o1 (c + n1) (q + 1) (some (vI a)) (some (vI (ms (SS t) q + ml (SS t) q))) (some (vI (a + n1))) y10 t8 rx t7 (by omega) (Or.inr (by
                  rw [gF_s, hS1]
                  refine ⟨by omega, by show q + 1 ≤ mn (SS t); omega, fun h7 => ?_⟩
                  have h7 : q + 1 < mn (SS t) := h7
                  show _ ≤ gF (ms (SS t)) q _ (q + 1)
                  rw [gF_n (by omega)]
                  have := hnn.mono (show q < q + 1 by omega) h7
                  omega)) (fun R' v1 v2 => QQ R' v1 (v2.trans hR9))
                have dn : bg (gF SS t S1) t = bg SS t := bg_eq (by rw [hS1]; rfl) t
                rw [dn, show ((bg SS t + (q + 1) : Nat) : Int) = ((bg SS t + q : Nat) : Int) + 1 by omega] at nx
                repeat (first | refine go_pure hM rfl ?_ | refine go_get hM rfl hr_o rfl ?_ | refine go_ldc hM rfl ?_)
                refine go_dup2 hM rfl ?_
                refine go_iald hM rfl hr_V (by omega) (by omega) (by omega) ?_
                rw [tq, d3]
                repeat (first | refine go_pure hM rfl ?_ | refine go_get hM rfl hr_o rfl ?_ | refine go_ldc hM rfl ?_)
                refine go_iald hM rfl hr_S (by omega) (by omega) (by omega) ?_
                rw [tq, d1]
                repeat (first | refine go_pure hM rfl ?_ | refine go_get hM rfl hr_o rfl ?_ | refine go_ldc hM rfl ?_)
                refine go_iast hM rfl hr_V (by omega) (by omega) (by omega) ?_
                rw [tq, ur_V]
                repeat (first | refine go_pure hM rfl ?_ | refine go_get hM rfl hr_o rfl ?_ | refine go_ldc hM rfl ?_)
                refine go_iast hM rfl hr_S (by omega) (by omega) (by omega) ?_
                rw [tq, ur_S, sR_n (by omega)]
                repeat (first | refine go_pure hM rfl ?_ | refine go_get hM rfl hr_o rfl ?_ | refine go_ldc hM rfl ?_)
                refine go_iast hM rfl hr_L (by omega) (by omega) (by omega) ?_
                rw [tq, ur_L, sR_n (by omega), sR_n (by omega)]
                have nx2 := nx (sR (sR (sR R 3 (gF (R.2.2 3) (bg SS t + q) (mv (SS t) q + (a + n1 - ms (SS t) q)))) 1 (gF (R.2.2 1) (bg SS t + q) (a + n1))) 2 (gF (R.2.2 2) (bg SS t + q) (ms (SS t) q + ml (SS t) q - (a + n1)))) ⟨by
                  refine hs.mv (fun j hj => ?_) rfl (str_g ?_)
                  · rw [sR_n (by omega), sR_n (by omega), sR_n (by omega)]
                  · rw [hS1]
                    exact ⟨rfl, rfl, rfl, rfl⟩, by
                  rw [hS1, show ms (SS t) q + ml (SS t) q - a - n1 = ms (SS t) q + ml (SS t) q - (a + n1) by omega, show mv (SS t) q + (a - ms (SS t) q) + n1 = mv (SS t) q + (a + n1 - ms (SS t) q) by omega]
                  refine hr.set ht t2 ((sR_n (by omega)).trans ((sR_n (by omega)).trans (sR_n (by omega)))) ((sR_n (by omega)).trans sR_s) sR_s ((sR_n (by omega)).trans ((sR_n (by omega)).trans sR_s)) ?_
                  rw [← d4]
                  exact ((sR_n (by omega)).trans ((sR_n (by omega)).trans (sR_n (by omega)))).trans (same _ _)⟩ rfl
                repeat (first | exact nx2 | refine go_pure hM rfl ?_ | refine go_get hM rfl hr_o rfl ?_ | refine go_ldc hM rfl ?_)
            · -- its end
              have e9 : a + n1 = ms (SS t) q + ml (SS t) q := by omega
              have hS1 : S1 = sSet (SS t) q (ms (SS t) q) (a - ms (SS t) q) (mv (SS t) q) (mw (SS t) q) := by
                rcases t6 with ⟨z, _⟩ | ⟨z, _⟩ | ⟨_, _, z⟩ | ⟨_, z, _⟩
                · omega
                · omega
                · exact z
                · omega
              have nx := fun R9 rx hR9 => ih (gF SS t S1) R9 (a + n1) SS' o1 (c + n1) (q + 1) (some (vI a)) (some (vI (ms (SS t) q + ml (SS t) q))) (some (vI (a + n1))) y10 t8 rx t7 (by omega) (Or.inl (by
                rw [gF_s, hS1]
                refine ⟨⟨by show q + 1 ≤ mn (SS t); omega, fun p hp => ?_, fun p p1 p2 => ?_⟩, Or.inr (fun h7 => ?_)⟩
                · show gF (ms (SS t)) q _ p + gF (ml (SS t)) q _ p ≤ _
                  by_cases e8 : p = q
                  · rw [e8, gF_s, gF_s]
                    omega
                  · rw [gF_n e8, gF_n e8]
                    have := hnn.mono (show p < q by omega) t2
                    omega
                · have p2 : p < mn (SS t) := p2
                  show _ < gF (ms (SS t)) q _ p + gF (ml (SS t)) q _ p
                  rw [gF_n (by omega), gF_n (by omega)]
                  have k1 := hnn.mono (show q < p by omega) p2
                  have k2 := (hnn.1 p p2).2.1
                  omega
                · have h7 : q + 1 < mn (SS t) := h7
                  show _ ≤ gF (ms (SS t)) q _ (q + 1)
                  rw [gF_n (by omega)]
                  have := hnn.mono (show q < q + 1 by omega) h7
                  omega)) (fun R' v1 v2 => QQ R' v1 (v2.trans hR9))
              have dn : bg (gF SS t S1) t = bg SS t := bg_eq (by rw [hS1]; rfl) t
              rw [dn, show ((bg SS t + (q + 1) : Nat) : Int) = ((bg SS t + q : Nat) : Int) + 1 by omega] at nx
              repeat (first | refine go_pure hM rfl ?_ | refine go_get hM rfl hr_o rfl ?_ | refine go_ldc hM rfl ?_)
              refine go_iald hM rfl hr_S (by omega) (by omega) (by omega) ?_
              rw [tq, d1]
              repeat (first | refine go_pure hM rfl ?_ | refine go_get hM rfl hr_o rfl ?_ | refine go_ldc hM rfl ?_)
              refine go_iast hM rfl hr_L (by omega) (by omega) (by omega) ?_
              rw [tq, ur_L]
              have nx2 := nx (sR R 2 (gF (R.2.2 2) (bg SS t + q) (a - ms (SS t) q))) ⟨by
                refine hs.mv (fun j hj => sR_n (by omega)) rfl (str_g ?_)
                rw [hS1]
                exact ⟨rfl, rfl, rfl, rfl⟩, by
                rw [hS1]
                refine hr.set ht t2 (sR_n (by omega)) ?_ sR_s ?_ ?_
                · rw [← d1]
                  exact (sR_n (by omega)).trans (same _ _)
                · rw [← d3]
                  exact (sR_n (by omega)).trans (same _ _)
                · rw [← d4]
                  exact (sR_n (by omega)).trans (same _ _)⟩ rfl
              repeat (first | exact nx2 | refine go_pure hM rfl ?_ | refine go_get hM rfl hr_o rfl ?_ | refine go_ldc hM rfl ?_)
          repeat (first | refine go_pure hM rfl ?_ | refine go_get hM rfl hr_o rfl ?_ | refine go_ldc hM rfl ?_)
          rw [show a + n1 - a = n1 by omega]
          refine go_iald hM rfl hr_S (by omega) (by omega) (by omega) ?_
          rw [tq, d1]
          refine go_icmp_le hM rfl (by omega) (by omega) (fun h9 => go204 (fun z => by omega)) (fun h9 => ?_)
          repeat (first | refine go_pure hM rfl ?_ | refine go_get hM rfl hr_o rfl ?_ | refine go_ldc hM rfl ?_)
          refine go_icmp_ge hM rfl (by omega) (by omega) (fun h8 => go204 (fun z => by omega)) (fun h8 => ?_)
          -- out of its middle
          have hE : ∃ tt9, EnT (gF SS t (sSet (SS t) q (ms (SS t) q) (a - ms (SS t) q) (mv (SS t) q) (mw (SS t) q))) t m (q + 1) tt9 (a + n1) (ms (SS t) q + ml (SS t) q - a - n1) (mv (SS t) q + (a - ms (SS t) q) + n1) (mw (SS t) q) S1 := by
            rcases t6 with ⟨z, _⟩ | ⟨z, _⟩ | ⟨_, z, _⟩ | ⟨_, _, z⟩
            · omega
            · omega
            · omega
            · exact z
          obtain ⟨tt9, hE⟩ := hE
          have hrn : mRn (sSet (SS t) q (ms (SS t) q) (a - ms (SS t) q) (mv (SS t) q) (mw (SS t) q)) := sset_rn hnn ⟨by omega, by omega, by omega, c4, by omega, by omega, by omega⟩ (fun i hi => hnn.mono (show i < q by omega) t2) (fun h7 => by
            have := hnn.2 q h7
            omega)
          have gd1 := hg.set ht hrn
          have rs1 : RS R (gF SS t (sSet (SS t) q (ms (SS t) q) (a - ms (SS t) q) (mv (SS t) q) (mw (SS t) q))) m := hs.mv (fun j _ => rfl) rfl (str_g ⟨rfl, rfl, rfl, rfl⟩)
          have en := m_enter (G := G) (N := none) (h := h) rs1 gd1 ht (by rw [gF_s]; show q + 1 ≤ mn (SS t); omega) hE
          rw [show ((q + 1 : Nat) : Int) - 1 = (q : Int) by omega, gF_uu] at en
          obtain ⟨T, w1, w2, w3, w4, w5, w6, w7, w8, w9⟩ := hE
          rw [gF_s] at w5
          obtain ⟨y1, y2, y3, y4, y5⟩ := enS_run (S := sSet (SS t) q (ms (SS t) q) (a - ms (SS t) q) (mv (SS t) q) (mw (SS t) q)) (t := t) (m := m) (i := q + 1 - 1) (nb := nbT T) (tt := tt9) (j := q + 1) (x := a + n1) (n := ms (SS t) q + ml (SS t) q - a - n1) (v := mv (SS t) q + (a - ms (SS t) q) + n1) (w := mw (SS t) q)
          rw [← w5] at y1 y2 y3 y4 y5
          have y1 : mn S1 = mn (SS t) + 1 := y1
          have b5 := t7.2.2.2.2
          have up := bg_up (SS := SS) (t := t) (S' := S1) y1
          have up4 := up 4
          have upt := up t
          rw [if_pos ht] at up4
          rw [if_neg (by omega), Nat.add_zero] at upt
          repeat (first | refine go_pure hM rfl ?_ | refine go_get hM rfl hr_o rfl ?_ | refine go_ldc hM rfl ?_)
          refine go_iald hM rfl hr_S (by omega) (by omega) (by omega) ?_
          rw [tq, d1]
          repeat (first | refine go_pure hM rfl ?_ | refine go_get hM rfl hr_o rfl ?_ | refine go_ldc hM rfl ?_)
          refine go_iald hM rfl hr_B (by omega) (by omega) (by omega) ?_
          rw [tt, b1]
          repeat (first | refine go_pure hM rfl ?_ | refine go_get hM rfl hr_o rfl ?_ | refine go_ldc hM rfl ?_)
          rw [show ((bg SS t + q : Nat) : Int) - ((bg SS t : Nat) : Int) = (q : Int) by omega]
          refine go_callV (mc := 0) (ms := 0) hM rfl rfl rfl hr_o rfl en rfl (fun v9 N9 h9 hq => ?_) (fun _ _ q => q.elim)
          obtain ⟨rfl, rfl, R2, u1, u2, u3, rfl⟩ := hq
          have rr2 := hr.same u2
          have b9 : zB R2 4 = ((bg SS 4 : Nat) : Int) := rr2.2.1 4 (Nat.le_refl _)
          have d3' : R2.2.2 3 (bg SS t + q) = mv (SS t) q := by
            rw [u2 3 (by omega)]
            exact d3
          have d4' : R2.2.2 4 (bg SS t + q) = mw (SS t) q := by
            rw [u2 4 (by omega)]
            exact d4
          have ci := m_insertRun0 (G := G) (N := none) (h := h) (R := R2) (at9 := bg SS t + (q + 1)) (e := bg SS 4) (x := a + n1) (n := ms (SS t) q + ml (SS t) q - (a + n1)) (v := mv (SS t) q + (a + n1) - ms (SS t) q) (w := mw (SS t) q) ht b9 (by omega) (by omega) c4 (rr2.w01 (fun g hg9 => (hg.2.1 g hg9).2))
          have ins := rr2.ins (k := q + 1) (S' := sIn (SS t) (q + 1) 0 (a + n1) (ms (SS t) q + ml (SS t) q - (a + n1)) (mv (SS t) q + (a + n1) - ms (SS t) q) (mw (SS t) q)) (x := a + n1) (n := ms (SS t) q + ml (SS t) q - (a + n1)) (v := mv (SS t) q + (a + n1) - ms (SS t) q) (w := mw (SS t) q) ht (by omega) (by omega) rfl (fun i hi => ⟨rfl, rfl, rfl, rfl⟩)
          generalize hR3 : sR (sRu R2 (gF (shG (zS R2) (bg SS t + (q + 1)) (bg SS t + (q + 1) + 1) (bg SS 4 - (bg SS t + (q + 1)))) (bg SS t + (q + 1)) (a + n1)) (gF (shG (zL R2) (bg SS t + (q + 1)) (bg SS t + (q + 1) + 1) (bg SS 4 - (bg SS t + (q + 1)))) (bg SS t + (q + 1)) (ms (SS t) q + ml (SS t) q - (a + n1))) (gF (shG (zV R2) (bg SS t + (q + 1)) (bg SS t + (q + 1) + 1) (bg SS 4 - (bg SS t + (q + 1)))) (bg SS t + (q + 1)) (mv (SS t) q + (a + n1) - ms (SS t) q)) (gF (shG (zW R2) (bg SS t + (q + 1)) (bg SS t + (q + 1) + 1) (bg SS 4 - (bg SS t + (q + 1)))) (bg SS t + (q + 1)) (mw (SS t) q))) 0 (bgI (zB R2) t 5 1) = R3 at ci ins
          have o3 : ∀ j, 5 ≤ j → R3.2.2 j = R2.2.2 j := fun j hj => by
            rw [← hR3, sR_n (by omega), sRu_o (Or.inr hj)]
          have m3 : R3.1 = R2.1 ∧ R3.2.1 = R2.2.1 := by
            rw [← hR3]
            exact ⟨rfl, rfl⟩
          have upq : bg (gF SS t (sIn (SS t) (q + 1) 0 (a + n1) (ms (SS t) q + ml (SS t) q - (a + n1)) (mv (SS t) q + (a + n1) - ms (SS t) q) (mw (SS t) q))) t = bg SS t := by
            have := bg_up (SS := SS) (t := t) (S' := sIn (SS t) (q + 1) 0 (a + n1) (ms (SS t) q + ml (SS t) q - (a + n1)) (mv (SS t) q + (a + n1) - ms (SS t) q) (mw (SS t) q)) rfl t
            rw [if_neg (by omega), Nat.add_zero] at this
            exact this
          have i3 := ins.2.2 t ht q (by rw [gF_s]; show q < mn (SS t) + 1; omega)
          rw [gF_s, upq] at i3
          have i31 : zS R3 (bg SS t + q) = ms (SS t) q := i3.1.trans (insN_lo (by omega))
          have i33 : zV R3 (bg SS t + q) = mv (SS t) q := i3.2.2.1.trans (insN_lo (by omega))
          have i34 : zW R3 (bg SS t + q) = mw (SS t) q := i3.2.2.2.trans (insN_lo (by omega))
          have st9 := ins.set (R' := sR R3 2 (gF (zL R3) (bg SS t + q) (a - ms (SS t) q))) (q := q) (x := ms (SS t) q) (n := a - ms (SS t) q) (v := mv (SS t) q) (w := mw (SS t) q) ht (by rw [gF_s]; show q < mn (SS t) + 1; omega) (sR_n (by omega)) (by
            rw [upq, ← i31]
            exact (sR_n (by omega)).trans (same _ _)) (by
            rw [upq]
            exact sR_s) (by
            rw [upq, ← i33]
            exact (sR_n (by omega)).trans (same _ _)) (by
            rw [upq, ← i34]
            exact (sR_n (by omega)).trans (same _ _))
          rw [gF_s, gF_uu] at st9
          have gi : ∀ (f : Nat → Int) (y z : Int) (i : Nat), insN (gF f q y) (q + 1) z i = gF (insN f (q + 1) z) q y i := by
            intro f y z i
            by_cases e8 : i = q
            · rw [e8, insN_lo (by omega), gF_s, gF_s]
            · rw [gF_n e8]
              rcases Nat.lt_trichotomy i (q + 1) with k1 | k1 | k1
              · rw [insN_lo k1, insN_lo k1, gF_n e8]
              · rw [k1, insN_at, insN_at]
              · obtain ⟨i', rfl⟩ : ∃ i', i = i' + 1 := ⟨i - 1, by omega⟩
                rw [insN_hi (by omega), insN_hi (by omega), gF_n (by omega)]
          have rr4 : RR (sR R3 2 (gF (zL R3) (bg SS t + q) (a - ms (SS t) q))) (gF SS t S1) := st9.eqv ht y1 (fun i hi => by
            rw [y2, y3, y4, y5, show ms (SS t) q + ml (SS t) q - a - n1 = ms (SS t) q + ml (SS t) q - (a + n1) by omega, show mv (SS t) q + (a - ms (SS t) q) + n1 = mv (SS t) q + (a + n1) - ms (SS t) q by omega]
            exact ⟨gi (ms (SS t)) _ _ i, gi (ml (SS t)) _ _ i, gi (mv (SS t)) _ _ i, gi (mw (SS t)) _ _ i⟩)
          have nx := ih (gF SS t S1) (sR R3 2 (gF (zL R3) (bg SS t + q) (a - ms (SS t) q))) (a + n1) SS' o1 (c + n1) (q + 1) (some (vI a)) (some (vI (ms (SS t) q + ml (SS t) q))) (some (vI (a + n1))) (some (vI (ms (SS t) q))) t8 ⟨u1.mv (fun j hj => by rw [sR_n (by omega), o3 j hj]) m3.2 (fun g => ⟨rfl, rfl, rfl, rfl⟩), rr4⟩ t7 (by omega) (Or.inl (by
            rw [gF_s]
            refine ⟨⟨by omega, fun p hp => ?_, fun p p1 p2 => ?_⟩, Or.inr (fun h7 => ?_)⟩
            · rw [y2, y3, insN_lo hp, insN_lo hp]
              show gF (ms (SS t)) q _ p + gF (ml (SS t)) q _ p ≤ _
              by_cases e8 : p = q
              · rw [e8, gF_s, gF_s]
                omega
              · rw [gF_n e8, gF_n e8]
                have := hnn.mono (show p < q by omega) t2
                omega
            · rw [y1] at p2
              rw [y2, y3]
              by_cases e8 : p = q + 1
              · rw [e8, insN_at, insN_at]
                omega
              · obtain ⟨p', rfl⟩ : ∃ p', p = p' + 1 := ⟨p - 1, by omega⟩
                rw [insN_hi (by omega), insN_hi (by omega)]
                show _ < gF (ms (SS t)) q _ p' + gF (ml (SS t)) q _ p'
                rw [gF_n (by omega), gF_n (by omega)]
                have k1 := hnn.mono (show q < p' by omega) (by omega)
                have k2 := (hnn.1 p' (by omega)).2.1
                omega
            · rw [y2, insN_at]
              exact Int.le_refl _)) (fun R' v1 v2 => QQ R' v1 (v2.trans (m3.1.trans u3)))
          rw [upt, show ((bg SS t + (q + 1) : Nat) : Int) = ((bg SS t + q : Nat) : Int) + 1 by omega] at nx
          rw [show ((bg SS t + (q + 1) : Nat) : Int) = ((bg SS t + q : Nat) : Int) + 1 by omega] at ci
          repeat (first | refine go_pure hM rfl ?_ | refine go_get hM rfl hr_o rfl ?_ | refine go_ldc hM rfl ?_)
          refine go_iald hM rfl hr_V (by omega) (by omega) (by omega) ?_
          rw [tq, d3']
          repeat (first | refine go_pure hM rfl ?_ | refine go_get hM rfl hr_o rfl ?_ | refine go_ldc hM rfl ?_)
          refine go_zald hM rfl hr_W (by omega) (by omega) (by omega) ?_
          rw [tq, d4']
          refine go_cV hM rfl rfl rfl hr_o rfl ci rfl ?_
          repeat (first | refine go_pure hM rfl ?_ | refine go_get hM rfl hr_o rfl ?_ | refine go_ldc hM rfl ?_)
          refine go_iast hM rfl hr_L (by omega) (by omega) (by omega) ?_
          rw [tq, ur_L]
          repeat (first | exact nx | refine go_pure hM rfl ?_ | refine go_get hM rfl hr_o rfl ?_ | refine go_ldc hM rfl ?_)
        have fr1 : ∀ z : Int, z = a → Go G m_Mod_takeOut (gFin G Q9 X) 63 [some (vR 541), some (vI t), some (vI x), some (vI n), some (vI (x + n)), some (vI c), some (vI ((bg SS t + q : Nat) : Int)), y7, y8, y9, y10] [vI z] none (hrx R h) 0 0 := by
          intro z hz
          rw [hz]
          have to1 : ∀ z : Int, z = a + n1 → Go G m_Mod_takeOut (gFin G Q9 X) 96 [some (vR 541), some (vI t), some (vI x), some (vI n), some (vI (x + n)), some (vI c), some (vI ((bg SS t + q : Nat) : Int)), some (vI a), some (vI (ms (SS t) q + ml (SS t) q)), y9, y10] [vI z] none (hrx R h) 0 0 := by
            intro z hz
            rw [hz]
            repeat (first | exact go63 | refine go_pure hM rfl ?_ | refine go_get hM rfl hr_o rfl ?_ | refine go_ldc hM rfl ?_)
          repeat (first | refine go_pure hM rfl ?_ | refine go_get hM rfl hr_o rfl ?_ | refine go_ldc hM rfl ?_)
          refine go_iald hM rfl hr_S (by omega) (by omega) (by omega) ?_
          rw [tq, d1]
          repeat (first | refine go_pure hM rfl ?_ | refine go_get hM rfl hr_o rfl ?_ | refine go_ldc hM rfl ?_)
          refine go_iald hM rfl hr_L (by omega) (by omega) (by omega) ?_
          rw [tq, d2]
          repeat (first | refine go_pure hM rfl ?_ | refine go_get hM rfl hr_o rfl ?_ | refine go_ldc hM rfl ?_)
          refine go_icmp_ge hM rfl (by omega) (by omega) (fun h9 => ?_) (fun h9 => ?_)
          · have n2 := to1 (x + n) (by rw [if_pos (by omega)] at t5; omega)
            repeat (first | exact n2 | refine go_pure hM rfl ?_ | refine go_get hM rfl hr_o rfl ?_ | refine go_ldc hM rfl ?_)
          · have n2 := to1 (ms (SS t) q + ml (SS t) q) (by rw [if_neg (by omega)] at t5; omega)
            repeat (first | exact n2 | refine go_pure hM rfl ?_ | refine go_get hM rfl hr_o rfl ?_ | refine go_ldc hM rfl ?_)
        repeat (first | refine go_pure hM rfl ?_ | refine go_get hM rfl hr_o rfl ?_ | refine go_ldc hM rfl ?_)
        refine go_iald hM rfl hr_B (by omega) (by omega) (by omega) ?_
        rw [tt1, b2]
        refine go_icmp_ge hM rfl (by omega) (by omega) (fun h9 => absurd h9 (by omega)) (fun h9 => ?_)
        repeat (first | refine go_pure hM rfl ?_ | refine go_get hM rfl hr_o rfl ?_ | refine go_ldc hM rfl ?_)
        refine go_iald hM rfl hr_S (by omega) (by omega) (by omega) ?_
        rw [tq, d1]
        repeat (first | refine go_pure hM rfl ?_ | refine go_get hM rfl hr_o rfl ?_ | refine go_ldc hM rfl ?_)
        refine go_icmp_ge hM rfl (by omega) (by omega) (fun h8 => absurd h8 (by omega)) (fun h8 => ?_)
        repeat (first | refine go_pure hM rfl ?_ | refine go_get hM rfl hr_o rfl ?_ | refine go_ldc hM rfl ?_)
        refine go_iald hM rfl hr_S (by omega) (by omega) (by omega) ?_
        rw [tq, d1]
        repeat (first | refine go_pure hM rfl ?_ | refine go_get hM rfl hr_o rfl ?_ | refine go_ldc hM rfl ?_)
        refine go_icmp_ge hM rfl (by omega) (by omega) (fun h7 => ?_) (fun h7 => ?_)
        · have n2 := fr1 (ms (SS t) q) (hfrom.2 (by omega)).symm
          repeat (first | refine go_pure hM rfl ?_ | refine go_get hM rfl hr_o rfl ?_ | refine go_ldc hM rfl ?_)
          refine go_iald hM rfl hr_S (by omega) (by omega) (by omega) ?_
          rw [tq, d1]
          exact n2
        · have n2 := fr1 x (hfrom.1 (by omega)).symm
          repeat (first | exact n2 | refine go_pure hM rfl ?_ | refine go_get hM rfl hr_o rfl ?_ | refine go_ldc hM rfl ?_)
      · omega
set_option maxHeartbeats 2000000 in
theorem m_takeOut (hRX : RX R SS m) (hg : Gd SS m) (ht : t < 4) (hx : 0 ≤ x) (hn : 1 ≤ n) (he : x + n ≤ 65536) (hT : TO t m (x + n) fu SS x SS' o) : Rn G m_Mod_takeOut [vR 541, vI t, vI x, vI n] N (hrx R h) 0 0 (qR R SS' m h (some (vI o))) gNo := by
  refine Rn.of rfl rfl rfl ?_
  have hM := ok_Mod_takeOut
  have hnn := (hg.2.1 t ht).2
  obtain ⟨q, hq⟩ := bh_ex hnn x
  have nx := to_loop (G := G) (h := h) (m := m) (Q9 := qR R SS' m h (some (vI o))) (X := gNo) ht hx hn he fu SS R x SS' o 0 q none none none none hT hRX hg (Int.le_refl _) (Or.inl ⟨hq, Or.inl rfl⟩) (fun R' u1 u2 => ⟨by rw [Int.zero_add], rfl, R', u1, u2, rfl⟩)
  refine go_drop ?_
  repeat (first | refine go_pure hM rfl ?_ | refine go_get hM rfl hr_o rfl ?_ | refine go_ldc hM rfl ?_)
  refine go_cV hM rfl rfl rfl hr_o rfl (m_behind hRX.2 hnn ht hq (by omega)) rfl ?_
  repeat (first | exact nx | refine go_pure hM rfl ?_ | refine go_get hM rfl hr_o rfl ?_ | refine go_ldc hM rfl ?_)
end
