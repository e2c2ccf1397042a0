/-! the law: free, its loop, its start -/
section
variable {G : gG} {F : gK → State → Prop} {A : cA} {R : rA} {h1 : gH} {SS : Nat → mS} {fo : Nat → Int64} {i : Int} {k b : Option gV} {c s : Nat}
set_option maxRecDepth 8000 in
set_option maxHeartbeats 8000000 in
theorem law_free (hc : Cl A SS) (hx : RX R SS (aM A)) (ho : h1 556 = some (eO fo)) (kk : ∀ (SS' : Nat → mS) (A' : cA) (R' : rA) (h' : gH) (fo' : Nat → Int64) (k' b' : Option gV), Cl A' SS' → RX R' SS' (aM A') → h' 556 = some (eO fo') → Go G m_Law_law F 1016 [some (vR 0), some (vR 1), some (vR 541), some (vR 556), some (vI i), k', b'] [] none (hpx A' (hrx R' h')) c s) : Go G m_Law_law F 867 [some (vR 0), some (vR 1), some (vR 541), some (vR 556), some (vI i), k, b] [] none (hpx A (hrx R h1)) (c + 1) (s + 6) := by
  have hM := ok_Law_law
  refine go_room (c := c) (s := s) (by omega) (by omega) ?_
  repeat (refine go_pure hM rfl ?_)
  refine go_cV hM rfl rfl rfl hp_et rfl (s_free hc) rfl ?_
  repeat (refine go_pure hM rfl ?_)
  refine go_heap hpr ?_
  refine go_callV (mc := 0) (ms := 0) (c := c) (s := s) hM rfl rfl rfl hr_o rfl (m_free hx) rfl (fun v9 N9 h9 hq => ?_) (fun _ _ q => q.elim)
  obtain ⟨rfl, rfl, R', hx', hR, rfl⟩ := hq
  have e1 : cnF (aTk A) 255 = cnF (zT R) 255 := Tn.cn ((cl_cx.mp hc).1.tn) hx.1.2.2.2.2
  have e2 := cnF_r (T := aTk A) 255
  have e3 := cnF_r (T := zT R) 255
  have k9 := kk SS A R' h1 fo k b hc hx' ho
  rw [hpr] at k9
  refine go_icmp_eq hM rfl (by omega) (by omega) (fun _ => k9) (fun e9 => absurd e1 e9)
theorem go_noN {M : gM} {pc : Nat} {lv : List (Option gV)} {st : List gV} {N : Option Nat} {h : gH} (kk : Go G M F pc lv st none h c s) : Go G M F pc lv st N h c s := fun κ H locs ls cells slots hC hH hl hr => kk κ H locs ls cells slots hC ⟨hH.1, fun n e => (by cases e), hH.2.2⟩ hl hr
set_option maxRecDepth 8000 in
set_option maxHeartbeats 8000000 in
theorem law_loop (hL : gL G ≤ 3073) (kend : ∀ (lv : List (Option gV)) (h : gH) (c s : Nat), Go G m_Law_law F 1023 lv [vI 1] none h c s) : ∀ (n : Nat) (i : Int) (SS : Nat → mS) (A : cA) (R : rA) (h1 : gH) (fo : Nat → Int64) (k b : Option gV), 1 ≤ i ∧ i ≤ 3079 → (gL G : Int) ≤ i + 6 * n + 5 → Cl A SS → RX R SS (aM A) → h1 556 = some (eO fo) → Go G m_Law_law F 33 [some (vR 0), some (vR 1), some (vR 541), some (vR 556), some (vI i), k, b] [] none (hpx A (hrx R h1)) n (6 * n) := by
  have hM := ok_Law_law
  intro n
  induction n with
  | zero =>
    intro i SS A R h1 fo k b hi hn hc hx ho
    repeat (refine go_pure hM rfl ?_)
    refine go_slen hM rfl ?_
    repeat (refine go_pure hM rfl ?_)
    refine go_icmp_gt hM rfl (by omega) (by omega) (fun _ => ?_) (fun hc5 => absurd hc5 (by omega))
    refine go_pure hM rfl ?_
    exact kend _ _ _ _
  | succ n ih =>
    intro i SS A R h1 fo k b hi hn hc hx ho
    repeat (refine go_pure hM rfl ?_)
    refine go_slen hM rfl ?_
    repeat (refine go_pure hM rfl ?_)
    refine go_icmp_gt hM rfl (by omega) (by omega) (fun _ => ?_) (fun hc5 => ?_)
    · refine go_pure hM rfl ?_
      exact kend _ _ _ _
    have kk : ∀ (SS' : Nat → mS) (A' : cA) (R' : rA) (h' : gH) (fo' : Nat → Int64) (k' b' : Option gV), Cl A' SS' → RX R' SS' (aM A') → h' 556 = some (eO fo') → Go G m_Law_law F 1016 [some (vR 0), some (vR 1), some (vR 541), some (vR 556), some (vI i), k', b'] [] none (hpx A' (hrx R' h')) n (6 * n) := by
      intro SS' A' R' h' fo' k' b' q1 q2 q3
      have q4 := ih (i + 6) SS' A' R' h' fo' k' b' (by omega) (by omega) q1 q2 q3
      refine go_pure hM rfl ?_
      refine go_pure hM rfl ?_
      exact q4
    refine go_room (c := n + 1) (s := 6 * n + 6) (Nat.le_refl _) (by omega) ?_
    repeat (refine go_pure hM rfl ?_)
    refine go_scr hM rfl (by omega) (by omega) (by omega) ?_
    repeat (refine go_pure hM rfl ?_)
    refine go_iand (q := 16) 4 hM rfl (by decide) (by decide) (by decide) ?_
    have hi9 : 1 ≤ i ∧ i + 6 ≤ gL G := by omega
    generalize hv9 : scr G i % ((16 : Nat) : Int) = v
    have hv : v = 0 ∨ v = 1 ∨ v = 2 ∨ v = 3 ∨ v = 4 ∨ v = 5 ∨ v = 6 ∨ v = 7 ∨ v = 8 ∨ v = 9 ∨ v = 10 ∨ v = 11 ∨ (12 ≤ v ∧ v < 16) := by omega
    clear hv9
    rcases hv with rfl | rfl | rfl | rfl | rfl | rfl | rfl | rfl | rfl | rfl | rfl | rfl | hv
    · exact go_tswIn (tgt := 112) hM rfl (by omega) (by omega) (by omega) rfl rfl (law_put hc hx ho hi9 hL kk)
    · exact go_tswIn (tgt := 232) hM rfl (by omega) (by omega) (by omega) rfl rfl (law_spread hc hx ho hi9 hL kk)
    · exact go_tswIn (tgt := 336) hM rfl (by omega) (by omega) (by omega) rfl rfl (law_punch hc hx ho hi9 hL kk)
    · exact go_tswIn (tgt := 416) hM rfl (by omega) (by omega) (by omega) rfl rfl (law_strip hc hx ho hi9 hL kk)
    · exact go_tswIn (tgt := 508) hM rfl (by omega) (by omega) (by omega) rfl rfl (law_write hc hx ho hi9 hL kk)
    · exact go_tswIn (tgt := 588) hM rfl (by omega) (by omega) (by omega) rfl rfl (law_look hc hx ho hi9 hL kk)
    · exact go_tswIn (tgt := 656) hM rfl (by omega) (by omega) (by omega) rfl rfl (law_written hc hx ho hi9 hL kk)
    · exact go_tswIn (tgt := 731) hM rfl (by omega) (by omega) (by omega) rfl rfl (law_reach hc hx ho hi9 hL kk)
    · exact go_tswIn (tgt := 799) hM rfl (by omega) (by omega) (by omega) rfl rfl (law_count hc hx ho hi9 hL kk)
    · exact go_tswIn (tgt := 867) hM rfl (by omega) (by omega) (by omega) rfl rfl (law_free hc hx ho kk)
    · exact go_tswIn (tgt := 880) hM rfl (by omega) (by omega) (by omega) rfl rfl (law_rootByte hc hx ho hi9 hL kk)
    · exact go_tswIn (tgt := 948) hM rfl (by omega) (by omega) (by omega) rfl rfl (law_nodeByte hc hx ho hi9 hL kk)
    · refine go_tswOut (tgt := 1016) hM rfl (by omega) (by omega) (by omega) ?_
      exact go_room (by omega) (by omega) (kk SS A R h1 fo k b hc hx ho)
end
