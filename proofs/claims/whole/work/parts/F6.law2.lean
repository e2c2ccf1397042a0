/-! the law's calls that change: by program (wip/whole/law.py) -/
section
variable {G : gG} {F : gK → State → Prop} {A : cA} {R : rA} {h1 : gH} {SS : Nat → mS} {fo : Nat → Int64} {i : Int} {k b : Option gV} {c s : Nat}
set_option maxRecDepth 8000 in
set_option maxHeartbeats 8000000 in
theorem law_put (hc : Cl A SS) (hx : RX R SS (aM A)) (ho : h1 556 = some (eO fo)) (hi : 1 ≤ i ∧ i + 6 ≤ gL G) (hL : gL G ≤ 3073) (kk : ∀ (SS' : Nat → mS) (A' : cA) (R' : rA) (h' : gH) (fo' : Nat → Int64) (k' b' : Option gV), Cl A' SS' → RX R' SS' (aM A') → h' 556 = some (eO fo') → Go G m_Law_law F 1016 [some (vR 0), some (vR 1), some (vR 541), some (vR 556), some (vI i), k', b'] [] none (hpx A' (hrx R' h')) c s) : Go G m_Law_law F 112 [some (vR 0), some (vR 1), some (vR 541), some (vR 556), some (vI i), k, b] [] none (hpx A (hrx R h1)) (c + 1) (s + 6) := by
  have hM := ok_Law_law
  have hg : Gd SS (aM A) := (cl_cx.mp hc).1.gd rfl
  have r1 := scr_r G (i + 1)
  have r2 := scr_r G (i + 2)
  have r3 := scr_r G (i + 3)
  have r4 := scr_r G (i + 4)
  have r5 := scr_r G (i + 5)
  have hw : ∃ w : Int, (w = 0 ∨ w = 1) ∧ (w = 0 ∧ scr G (i + 5) = 0 ∨ w = 1 ∧ ¬ scr G (i + 5) = 0) := by
    by_cases e : scr G (i + 5) = 0
    · exact ⟨0, by omega, Or.inl ⟨rfl, e⟩⟩
    · exact ⟨1, by omega, Or.inr ⟨rfl, e⟩⟩
  obtain ⟨w, hw, hv⟩ := hw
  repeat (refine go_pure hM rfl ?_)
  refine go_scr hM rfl (by omega) (by omega) (by omega) ?_
  repeat (refine go_pure hM rfl ?_)
  refine go_scr hM rfl (by omega) (by omega) (by omega) ?_
  repeat (refine go_pure hM rfl ?_)
  refine go_scr hM rfl (by omega) (by omega) (by omega) ?_
  repeat (refine go_pure hM rfl ?_)
  refine go_scr hM rfl (by omega) (by omega) (by omega) ?_
  repeat (refine go_pure hM rfl ?_)
  refine go_scr hM rfl (by omega) (by omega) (by omega) ?_
  refine go_flag (w := w) hM rfl rfl rfl rfl r5 hv ?_
  repeat (refine go_pure hM rfl ?_)
  refine go_callSX (mc := 1) (ms := 6) (c := c) (s := s) hM rfl okX_put rfl rfl (L_put hc (hr_556 ho) r1 r2 r3 r4 hw) rfl (fun v9 N9 h9 hq => ?_) (fun _ _ q => q.elim)
  obtain ⟨c9, r9, SS', A', rfl, rfl, hp, hcr, hCl, hm9, rfl⟩ := hq
  refine go_heap (by rw [out_hr, hpr]) ?_
  repeat (refine go_pure hM rfl ?_)
  refine go_scr hM rfl (by omega) (by omega) (by omega) ?_
  repeat (refine go_pure hM rfl ?_)
  refine go_scr hM rfl (by omega) (by omega) (by omega) ?_
  repeat (refine go_pure hM rfl ?_)
  refine go_scr hM rfl (by omega) (by omega) (by omega) ?_
  repeat (refine go_pure hM rfl ?_)
  refine go_scr hM rfl (by omega) (by omega) (by omega) ?_
  repeat (refine go_pure hM rfl ?_)
  refine go_scr hM rfl (by omega) (by omega) (by omega) ?_
  refine go_flag (w := w) hM rfl rfl rfl rfl r5 hv ?_
  repeat (refine go_pure hM rfl ?_)
  refine go_callV (mc := 0) (ms := 0) (c := c) (s := s) hM rfl rfl rfl hr_o rfl (m_put hx hg r1 r2 r3 r4 hw hp) rfl (fun v9 N9 h9 hq => ?_) (fun _ _ q => q.elim)
  obtain ⟨rfl, rfl, R', hx', hR, rfl⟩ := hq
  repeat (refine go_pure hM rfl ?_)
  refine go_cV hM rfl rfl rfl hr_o rfl m_thrown rfl ?_
  repeat (refine go_pure hM rfl ?_)
  refine go_icmp_eq hM rfl (by omega) (by omega) (fun _ => ?_) (fun e9 => absurd hR e9)
  repeat (refine go_pure hM rfl ?_)
  have k9 := kk _ A' R' (outH h1 fo c9 r9) _ (some (vI c9)) (some (vI r9)) hCl (by rw [hm9]; exact hx') (out_556 ho)
  rw [hpr] at k9
  refine go_if_ne hM rfl (by omega) (fun e9 => ?_) (fun e9 => ?_)
  · repeat (first | exact k9 | refine go_pure hM rfl ?_)
  · repeat (refine go_pure hM rfl ?_)
    refine go_lald hM rfl (hr_556 (hp_out (out_556 ho))) (by omega) (by omega) (by omega) ?_
    have e6 : (if c9 = 0 then gF fo 0 (Int32.ofInt r9).toInt64 else fo) (Int.toNat 0) = (Int32.ofInt r9).toInt64 := by rw [if_pos e9]; rfl
    rw [e6]
    repeat (refine go_pure hM rfl ?_)
    refine go_i2l hM rfl ?_
    refine go_lcmp hM rfl ?_
    have e8 := lg_self (Int32.ofInt r9).toInt64
    refine go_if_eq hM rfl (rng0 e8) (fun _ => ?_) (fun e7 => absurd e8 e7)
    repeat (first | exact k9 | refine go_pure hM rfl ?_)
set_option maxRecDepth 8000 in
set_option maxHeartbeats 8000000 in
theorem law_spread (hc : Cl A SS) (hx : RX R SS (aM A)) (ho : h1 556 = some (eO fo)) (hi : 1 ≤ i ∧ i + 6 ≤ gL G) (hL : gL G ≤ 3073) (kk : ∀ (SS' : Nat → mS) (A' : cA) (R' : rA) (h' : gH) (fo' : Nat → Int64) (k' b' : Option gV), Cl A' SS' → RX R' SS' (aM A') → h' 556 = some (eO fo') → Go G m_Law_law F 1016 [some (vR 0), some (vR 1), some (vR 541), some (vR 556), some (vI i), k', b'] [] none (hpx A' (hrx R' h')) c s) : Go G m_Law_law F 232 [some (vR 0), some (vR 1), some (vR 541), some (vR 556), some (vI i), k, b] [] none (hpx A (hrx R h1)) (c + 1) (s + 6) := by
  have hM := ok_Law_law
  have hg : Gd SS (aM A) := (cl_cx.mp hc).1.gd rfl
  have r1 := scr_r G (i + 1)
  have r2 := scr_r G (i + 2)
  have r3 := scr_r G (i + 3)
  have r4 := scr_r G (i + 4)
  have r5 := scr_r G (i + 5)
  repeat (refine go_pure hM rfl ?_)
  refine go_scr hM rfl (by omega) (by omega) (by omega) ?_
  repeat (refine go_pure hM rfl ?_)
  refine go_scr hM rfl (by omega) (by omega) (by omega) ?_
  repeat (refine go_pure hM rfl ?_)
  refine go_scr hM rfl (by omega) (by omega) (by omega) ?_
  repeat (refine go_pure hM rfl ?_)
  refine go_scr hM rfl (by omega) (by omega) (by omega) ?_
  repeat (refine go_pure hM rfl ?_)
  refine go_scr hM rfl (by omega) (by omega) (by omega) ?_
  repeat (refine go_pure hM rfl ?_)
  refine go_callSX (mc := 1) (ms := 6) (c := c) (s := s) hM rfl okX_spread rfl rfl (L_spread hc (hr_556 ho) r1 r2 r3 r4 r5) rfl (fun v9 N9 h9 hq => ?_) (fun _ _ q => q.elim)
  obtain ⟨c9, r9, SS', A', rfl, rfl, hp, hcr, hCl, hm9, rfl⟩ := hq
  refine go_heap (by rw [out_hr, hpr]) ?_
  repeat (refine go_pure hM rfl ?_)
  refine go_scr hM rfl (by omega) (by omega) (by omega) ?_
  repeat (refine go_pure hM rfl ?_)
  refine go_scr hM rfl (by omega) (by omega) (by omega) ?_
  repeat (refine go_pure hM rfl ?_)
  refine go_scr hM rfl (by omega) (by omega) (by omega) ?_
  repeat (refine go_pure hM rfl ?_)
  refine go_scr hM rfl (by omega) (by omega) (by omega) ?_
  repeat (refine go_pure hM rfl ?_)
  refine go_scr hM rfl (by omega) (by omega) (by omega) ?_
  repeat (refine go_pure hM rfl ?_)
  refine go_callV (mc := 0) (ms := 0) (c := c) (s := s) hM rfl rfl rfl hr_o rfl (m_spread hx hg r1 r2 r3 r4 r5 hp) rfl (fun v9 N9 h9 hq => ?_) (fun _ _ q => q.elim)
  obtain ⟨rfl, rfl, R', hx', hR, rfl⟩ := hq
  repeat (refine go_pure hM rfl ?_)
  refine go_cV hM rfl rfl rfl hr_o rfl m_thrown rfl ?_
  repeat (refine go_pure hM rfl ?_)
  refine go_icmp_eq hM rfl (by omega) (by omega) (fun _ => ?_) (fun e9 => absurd hR e9)
  repeat (refine go_pure hM rfl ?_)
  have k9 := kk _ A' R' (outH h1 fo c9 r9) _ (some (vI c9)) (some (vI r9)) hCl (by rw [hm9]; exact hx') (out_556 ho)
  rw [hpr] at k9
  refine go_if_ne hM rfl (by omega) (fun e9 => ?_) (fun e9 => ?_)
  · repeat (first | exact k9 | refine go_pure hM rfl ?_)
  · repeat (refine go_pure hM rfl ?_)
    refine go_lald hM rfl (hr_556 (hp_out (out_556 ho))) (by omega) (by omega) (by omega) ?_
    have e6 : (if c9 = 0 then gF fo 0 (Int32.ofInt r9).toInt64 else fo) (Int.toNat 0) = (Int32.ofInt r9).toInt64 := by rw [if_pos e9]; rfl
    rw [e6]
    repeat (refine go_pure hM rfl ?_)
    refine go_i2l hM rfl ?_
    refine go_lcmp hM rfl ?_
    have e8 := lg_self (Int32.ofInt r9).toInt64
    refine go_if_eq hM rfl (rng0 e8) (fun _ => ?_) (fun e7 => absurd e8 e7)
    repeat (first | exact k9 | refine go_pure hM rfl ?_)
set_option maxRecDepth 8000 in
set_option maxHeartbeats 8000000 in
theorem law_punch (hc : Cl A SS) (hx : RX R SS (aM A)) (ho : h1 556 = some (eO fo)) (hi : 1 ≤ i ∧ i + 6 ≤ gL G) (hL : gL G ≤ 3073) (kk : ∀ (SS' : Nat → mS) (A' : cA) (R' : rA) (h' : gH) (fo' : Nat → Int64) (k' b' : Option gV), Cl A' SS' → RX R' SS' (aM A') → h' 556 = some (eO fo') → Go G m_Law_law F 1016 [some (vR 0), some (vR 1), some (vR 541), some (vR 556), some (vI i), k', b'] [] none (hpx A' (hrx R' h')) c s) : Go G m_Law_law F 336 [some (vR 0), some (vR 1), some (vR 541), some (vR 556), some (vI i), k, b] [] none (hpx A (hrx R h1)) (c + 1) (s + 6) := by
  have hM := ok_Law_law
  have hg : Gd SS (aM A) := (cl_cx.mp hc).1.gd rfl
  have r1 := scr_r G (i + 1)
  have r2 := scr_r G (i + 2)
  have r3 := scr_r G (i + 3)
  repeat (refine go_pure hM rfl ?_)
  refine go_scr hM rfl (by omega) (by omega) (by omega) ?_
  repeat (refine go_pure hM rfl ?_)
  refine go_scr hM rfl (by omega) (by omega) (by omega) ?_
  repeat (refine go_pure hM rfl ?_)
  refine go_scr hM rfl (by omega) (by omega) (by omega) ?_
  repeat (refine go_pure hM rfl ?_)
  refine go_callSX (mc := 1) (ms := 6) (c := c) (s := s) hM rfl okX_punch rfl rfl (L_punch hc (hr_556 ho) r1 r2 r3) rfl (fun v9 N9 h9 hq => ?_) (fun _ _ q => q.elim)
  obtain ⟨c9, r9, SS', A', rfl, rfl, hp, hcr, hCl, hm9, rfl⟩ := hq
  refine go_heap (by rw [out_hr, hpr]) ?_
  repeat (refine go_pure hM rfl ?_)
  refine go_scr hM rfl (by omega) (by omega) (by omega) ?_
  repeat (refine go_pure hM rfl ?_)
  refine go_scr hM rfl (by omega) (by omega) (by omega) ?_
  repeat (refine go_pure hM rfl ?_)
  refine go_scr hM rfl (by omega) (by omega) (by omega) ?_
  repeat (refine go_pure hM rfl ?_)
  refine go_callV (mc := 0) (ms := 0) (c := c) (s := s) hM rfl rfl rfl hr_o rfl (m_punch hx hg r1 r2 r3 hp) rfl (fun v9 N9 h9 hq => ?_) (fun _ _ q => q.elim)
  obtain ⟨rfl, rfl, R', hx', hR, rfl⟩ := hq
  repeat (refine go_pure hM rfl ?_)
  refine go_cV hM rfl rfl rfl hr_o rfl m_thrown rfl ?_
  repeat (refine go_pure hM rfl ?_)
  refine go_icmp_eq hM rfl (by omega) (by omega) (fun _ => ?_) (fun e9 => absurd hR e9)
  repeat (refine go_pure hM rfl ?_)
  have k9 := kk _ A' R' (outH h1 fo c9 r9) _ (some (vI c9)) (some (vI r9)) hCl (by rw [hm9]; exact hx') (out_556 ho)
  rw [hpr] at k9
  refine go_if_ne hM rfl (by omega) (fun e9 => ?_) (fun e9 => ?_)
  · repeat (first | exact k9 | refine go_pure hM rfl ?_)
  · repeat (refine go_pure hM rfl ?_)
    refine go_lald hM rfl (hr_556 (hp_out (out_556 ho))) (by omega) (by omega) (by omega) ?_
    have e6 : (if c9 = 0 then gF fo 0 (Int32.ofInt r9).toInt64 else fo) (Int.toNat 0) = (Int32.ofInt r9).toInt64 := by rw [if_pos e9]; rfl
    rw [e6]
    repeat (refine go_pure hM rfl ?_)
    refine go_i2l hM rfl ?_
    refine go_lcmp hM rfl ?_
    have e8 := lg_self (Int32.ofInt r9).toInt64
    refine go_if_eq hM rfl (rng0 e8) (fun _ => ?_) (fun e7 => absurd e8 e7)
    repeat (first | exact k9 | refine go_pure hM rfl ?_)
set_option maxRecDepth 8000 in
set_option maxHeartbeats 8000000 in
theorem law_strip (hc : Cl A SS) (hx : RX R SS (aM A)) (ho : h1 556 = some (eO fo)) (hi : 1 ≤ i ∧ i + 6 ≤ gL G) (hL : gL G ≤ 3073) (kk : ∀ (SS' : Nat → mS) (A' : cA) (R' : rA) (h' : gH) (fo' : Nat → Int64) (k' b' : Option gV), Cl A' SS' → RX R' SS' (aM A') → h' 556 = some (eO fo') → Go G m_Law_law F 1016 [some (vR 0), some (vR 1), some (vR 541), some (vR 556), some (vI i), k', b'] [] none (hpx A' (hrx R' h')) c s) : Go G m_Law_law F 416 [some (vR 0), some (vR 1), some (vR 541), some (vR 556), some (vI i), k, b] [] none (hpx A (hrx R h1)) (c + 1) (s + 6) := by
  have hM := ok_Law_law
  have hg : Gd SS (aM A) := (cl_cx.mp hc).1.gd rfl
  have r1 := scr_r G (i + 1)
  have r2 := scr_r G (i + 2)
  have r3 := scr_r G (i + 3)
  have r4 := scr_r G (i + 4)
  repeat (refine go_pure hM rfl ?_)
  refine go_scr hM rfl (by omega) (by omega) (by omega) ?_
  repeat (refine go_pure hM rfl ?_)
  refine go_scr hM rfl (by omega) (by omega) (by omega) ?_
  repeat (refine go_pure hM rfl ?_)
  refine go_scr hM rfl (by omega) (by omega) (by omega) ?_
  repeat (refine go_pure hM rfl ?_)
  refine go_scr hM rfl (by omega) (by omega) (by omega) ?_
  repeat (refine go_pure hM rfl ?_)
  refine go_callSX (mc := 1) (ms := 6) (c := c) (s := s) hM rfl okX_strip rfl rfl (L_strip hc (hr_556 ho) r1 r2 r3 r4) rfl (fun v9 N9 h9 hq => ?_) (fun _ _ q => q.elim)
  obtain ⟨c9, r9, SS', A', rfl, rfl, hp, hcr, hCl, hm9, rfl⟩ := hq
  refine go_heap (by rw [out_hr, hpr]) ?_
  repeat (refine go_pure hM rfl ?_)
  refine go_scr hM rfl (by omega) (by omega) (by omega) ?_
  repeat (refine go_pure hM rfl ?_)
  refine go_scr hM rfl (by omega) (by omega) (by omega) ?_
  repeat (refine go_pure hM rfl ?_)
  refine go_scr hM rfl (by omega) (by omega) (by omega) ?_
  repeat (refine go_pure hM rfl ?_)
  refine go_scr hM rfl (by omega) (by omega) (by omega) ?_
  repeat (refine go_pure hM rfl ?_)
  refine go_callV (mc := 0) (ms := 0) (c := c) (s := s) hM rfl rfl rfl hr_o rfl (m_strip hx hg r1 r2 r3 r4 hp) rfl (fun v9 N9 h9 hq => ?_) (fun _ _ q => q.elim)
  obtain ⟨rfl, rfl, R', hx', hR, rfl⟩ := hq
  repeat (refine go_pure hM rfl ?_)
  refine go_cV hM rfl rfl rfl hr_o rfl m_thrown rfl ?_
  repeat (refine go_pure hM rfl ?_)
  refine go_icmp_eq hM rfl (by omega) (by omega) (fun _ => ?_) (fun e9 => absurd hR e9)
  repeat (refine go_pure hM rfl ?_)
  have k9 := kk _ A' R' (outH h1 fo c9 r9) _ (some (vI c9)) (some (vI r9)) hCl (by rw [hm9]; exact hx') (out_556 ho)
  rw [hpr] at k9
  refine go_if_ne hM rfl (by omega) (fun e9 => ?_) (fun e9 => ?_)
  · repeat (first | exact k9 | refine go_pure hM rfl ?_)
  · repeat (refine go_pure hM rfl ?_)
    refine go_lald hM rfl (hr_556 (hp_out (out_556 ho))) (by omega) (by omega) (by omega) ?_
    have e6 : (if c9 = 0 then gF fo 0 (Int32.ofInt r9).toInt64 else fo) (Int.toNat 0) = (Int32.ofInt r9).toInt64 := by rw [if_pos e9]; rfl
    rw [e6]
    repeat (refine go_pure hM rfl ?_)
    refine go_i2l hM rfl ?_
    refine go_lcmp hM rfl ?_
    have e8 := lg_self (Int32.ofInt r9).toInt64
    refine go_if_eq hM rfl (rng0 e8) (fun _ => ?_) (fun e7 => absurd e8 e7)
    repeat (first | exact k9 | refine go_pure hM rfl ?_)
set_option maxRecDepth 8000 in
set_option maxHeartbeats 8000000 in
theorem law_write (hc : Cl A SS) (hx : RX R SS (aM A)) (ho : h1 556 = some (eO fo)) (hi : 1 ≤ i ∧ i + 6 ≤ gL G) (hL : gL G ≤ 3073) (kk : ∀ (SS' : Nat → mS) (A' : cA) (R' : rA) (h' : gH) (fo' : Nat → Int64) (k' b' : Option gV), Cl A' SS' → RX R' SS' (aM A') → h' 556 = some (eO fo') → Go G m_Law_law F 1016 [some (vR 0), some (vR 1), some (vR 541), some (vR 556), some (vI i), k', b'] [] none (hpx A' (hrx R' h')) c s) : Go G m_Law_law F 508 [some (vR 0), some (vR 1), some (vR 541), some (vR 556), some (vI i), k, b] [] none (hpx A (hrx R h1)) (c + 1) (s + 6) := by
  have hM := ok_Law_law
  have hg : Gd SS (aM A) := (cl_cx.mp hc).1.gd rfl
  have r1 := scr_r G (i + 1)
  have r2 := scr_r G (i + 2)
  have r3 := scr_r G (i + 3)
  repeat (refine go_pure hM rfl ?_)
  refine go_scr hM rfl (by omega) (by omega) (by omega) ?_
  repeat (refine go_pure hM rfl ?_)
  refine go_scr hM rfl (by omega) (by omega) (by omega) ?_
  repeat (refine go_pure hM rfl ?_)
  refine go_scr hM rfl (by omega) (by omega) (by omega) ?_
  repeat (refine go_pure hM rfl ?_)
  refine go_callSX (mc := 1) (ms := 6) (c := c) (s := s) hM rfl okX_write rfl rfl (L_write hc (hr_556 ho) r1 r2 r3) rfl (fun v9 N9 h9 hq => ?_) (fun _ _ q => q.elim)
  obtain ⟨c9, r9, SS', A', rfl, rfl, hp, hcr, hCl, hm9, rfl⟩ := hq
  refine go_heap (by rw [out_hr, hpr]) ?_
  repeat (refine go_pure hM rfl ?_)
  refine go_scr hM rfl (by omega) (by omega) (by omega) ?_
  repeat (refine go_pure hM rfl ?_)
  refine go_scr hM rfl (by omega) (by omega) (by omega) ?_
  repeat (refine go_pure hM rfl ?_)
  refine go_scr hM rfl (by omega) (by omega) (by omega) ?_
  repeat (refine go_pure hM rfl ?_)
  refine go_callV (mc := 0) (ms := 0) (c := c) (s := s) hM rfl rfl rfl hr_o rfl (m_write hx hg r1 r2 r3 hp) rfl (fun v9 N9 h9 hq => ?_) (fun _ _ q => q.elim)
  obtain ⟨rfl, rfl, R', hx', hR, rfl⟩ := hq
  repeat (refine go_pure hM rfl ?_)
  refine go_cV hM rfl rfl rfl hr_o rfl m_thrown rfl ?_
  repeat (refine go_pure hM rfl ?_)
  refine go_icmp_eq hM rfl (by omega) (by omega) (fun _ => ?_) (fun e9 => absurd hR e9)
  repeat (refine go_pure hM rfl ?_)
  have k9 := kk _ A' R' (outH h1 fo c9 r9) _ (some (vI c9)) (some (vI r9)) hCl (by rw [hm9]; exact hx') (out_556 ho)
  rw [hpr] at k9
  refine go_if_ne hM rfl (by omega) (fun e9 => ?_) (fun e9 => ?_)
  · repeat (first | exact k9 | refine go_pure hM rfl ?_)
  · repeat (refine go_pure hM rfl ?_)
    refine go_lald hM rfl (hr_556 (hp_out (out_556 ho))) (by omega) (by omega) (by omega) ?_
    have e6 : (if c9 = 0 then gF fo 0 (Int32.ofInt r9).toInt64 else fo) (Int.toNat 0) = (Int32.ofInt r9).toInt64 := by rw [if_pos e9]; rfl
    rw [e6]
    repeat (refine go_pure hM rfl ?_)
    refine go_i2l hM rfl ?_
    refine go_lcmp hM rfl ?_
    have e8 := lg_self (Int32.ofInt r9).toInt64
    refine go_if_eq hM rfl (rng0 e8) (fun _ => ?_) (fun e7 => absurd e8 e7)
    repeat (first | exact k9 | refine go_pure hM rfl ?_)
end
