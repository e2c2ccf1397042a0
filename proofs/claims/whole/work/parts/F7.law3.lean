/-! the law's calls that read: by program (wip/whole/law.py) -/
section
variable {G : gG} {F : gK → State → Prop} {A : cA} {R : rA} {h1 : gH} {SS : Nat → mS} {fo : Nat → Int64} {i : Int} {k b : Option gV} {c s : Nat}
set_option maxRecDepth 8000 in
set_option maxHeartbeats 8000000 in
theorem law_look (hc : Cl A SS) (hx : RX R SS (aM A)) (ho : h1 556 = some (eO fo)) (hi : 1 ≤ i ∧ i + 6 ≤ gL G) (hL : gL G ≤ 3073) (kk : ∀ (SS' : Nat → mS) (A' : cA) (R' : rA) (h' : gH) (fo' : Nat → Int64) (k' b' : Option gV), Cl A' SS' → RX R' SS' (aM A') → h' 556 = some (eO fo') → Go G m_Law_law F 1016 [some (vR 0), some (vR 1), some (vR 541), some (vR 556), some (vI i), k', b'] [] none (hpx A' (hrx R' h')) c s) : Go G m_Law_law F 588 [some (vR 0), some (vR 1), some (vR 541), some (vR 556), some (vI i), k, b] [] none (hpx A (hrx R h1)) (c + 1) (s + 6) := by
  have hM := ok_Law_law
  have hg : Gd SS (aM A) := (cl_cx.mp hc).1.gd rfl
  have r1 := scr_r G (i + 1)
  have r2 := scr_r G (i + 2)
  repeat (refine go_pure hM rfl ?_)
  refine go_scr hM rfl (by omega) (by omega) (by omega) ?_
  repeat (refine go_pure hM rfl ?_)
  refine go_scr hM rfl (by omega) (by omega) (by omega) ?_
  repeat (refine go_pure hM rfl ?_)
  refine go_callSX (mc := 1) (ms := 6) (c := c) (s := s) hM rfl okX_look rfl rfl (L_look hc (hr_556 ho) r1 r2) rfl (fun v9 N9 h9 hq => ?_) (fun _ _ q => q.elim)
  obtain ⟨c9, r9, SS', A', rfl, rfl, hp, hcr, hCl, hm9, rfl⟩ := hq
  refine go_heap (by rw [out_hr, hpr]) ?_
  repeat (refine go_pure hM rfl ?_)
  refine go_scr hM rfl (by omega) (by omega) (by omega) ?_
  repeat (refine go_pure hM rfl ?_)
  refine go_scr hM rfl (by omega) (by omega) (by omega) ?_
  repeat (refine go_pure hM rfl ?_)
  obtain ⟨hp, rfl⟩ := hp
  refine go_callV (mc := 0) (ms := 0) (c := c) (s := s) hM rfl rfl rfl hr_o rfl (m_look hx hg r1 r2 hp) rfl (fun v9 N9 h9 hq => ?_) (fun _ _ q => q.elim)
  obtain ⟨rfl, rfl, R', hx', hR, rfl⟩ := hq
  repeat (refine go_pure hM rfl ?_)
  refine go_cV hM rfl rfl rfl hr_o rfl m_thrown rfl ?_
  repeat (refine go_pure hM rfl ?_)
  refine go_icmp_eq hM rfl (by omega) (by omega) (fun _ => ?_) (fun e9 => absurd hR e9)
  repeat (refine go_pure hM rfl ?_)
  have k9 := kk _ A' R' (outH h1 fo c9 r9) _ (some (vI c9)) (some (vI r9)) hCl (by rw [hm9]; exact hx') (out_556 ho)
  rw [hpr] at k9
  refine go_if_ne hM rfl (by omega) (fun e9 => ?_) (fun e9 => ?_)
  · repeat (first | exact k9 | refine go_pure hM rfl ?_)
  · repeat (refine go_pure hM rfl ?_)
    refine go_lald hM rfl (hr_556 (hp_out (out_556 ho))) (by omega) (by omega) (by omega) ?_
    have e6 : (if c9 = 0 then gF fo 0 (Int32.ofInt r9).toInt64 else fo) (Int.toNat 0) = (Int32.ofInt r9).toInt64 := by rw [if_pos e9]; rfl
    rw [e6]
    repeat (refine go_pure hM rfl ?_)
    refine go_i2l hM rfl ?_
    refine go_lcmp hM rfl ?_
    have e8 := lg_self (Int32.ofInt r9).toInt64
    refine go_if_eq hM rfl (rng0 e8) (fun _ => ?_) (fun e7 => absurd e8 e7)
    repeat (first | exact k9 | refine go_pure hM rfl ?_)
set_option maxRecDepth 8000 in
set_option maxHeartbeats 8000000 in
theorem law_written (hc : Cl A SS) (hx : RX R SS (aM A)) (ho : h1 556 = some (eO fo)) (hi : 1 ≤ i ∧ i + 6 ≤ gL G) (hL : gL G ≤ 3073) (kk : ∀ (SS' : Nat → mS) (A' : cA) (R' : rA) (h' : gH) (fo' : Nat → Int64) (k' b' : Option gV), Cl A' SS' → RX R' SS' (aM A') → h' 556 = some (eO fo') → Go G m_Law_law F 1016 [some (vR 0), some (vR 1), some (vR 541), some (vR 556), some (vI i), k', b'] [] none (hpx A' (hrx R' h')) c s) : Go G m_Law_law F 656 [some (vR 0), some (vR 1), some (vR 541), some (vR 556), some (vI i), k, b] [] none (hpx A (hrx R h1)) (c + 1) (s + 6) := by
  have hM := ok_Law_law
  have hg : Gd SS (aM A) := (cl_cx.mp hc).1.gd rfl
  have r1 := scr_r G (i + 1)
  have r2 := scr_r G (i + 2)
  repeat (refine go_pure hM rfl ?_)
  refine go_scr hM rfl (by omega) (by omega) (by omega) ?_
  repeat (refine go_pure hM rfl ?_)
  refine go_scr hM rfl (by omega) (by omega) (by omega) ?_
  repeat (refine go_pure hM rfl ?_)
  refine go_callSX (mc := 1) (ms := 6) (c := c) (s := s) hM rfl okX_written rfl rfl (L_written hc (hr_556 ho) r1 r2) rfl (fun v9 N9 h9 hq => ?_) (fun _ _ q => q.elim)
  obtain ⟨c9, r9, SS', A', rfl, rfl, hp, hcr, hCl, hm9, rfl⟩ := hq
  refine go_heap (by rw [out_hr, hpr]) ?_
  repeat (refine go_pure hM rfl ?_)
  refine go_scr hM rfl (by omega) (by omega) (by omega) ?_
  repeat (refine go_pure hM rfl ?_)
  refine go_scr hM rfl (by omega) (by omega) (by omega) ?_
  repeat (refine go_pure hM rfl ?_)
  obtain ⟨hp, rfl⟩ := hp
  refine go_callV (mc := 0) (ms := 0) (c := c) (s := s) hM rfl rfl rfl hr_o rfl (m_written hx hg r1 r2 hp) rfl (fun v9 N9 h9 hq => ?_) (fun _ _ q => q.elim)
  obtain ⟨rfl, rfl, R', hx', hR, rfl⟩ := hq
  repeat (refine go_pure hM rfl ?_)
  refine go_cV hM rfl rfl rfl hr_o rfl m_thrown rfl ?_
  repeat (refine go_pure hM rfl ?_)
  refine go_icmp_eq hM rfl (by omega) (by omega) (fun _ => ?_) (fun e9 => absurd hR e9)
  repeat (refine go_pure hM rfl ?_)
  have k9 := kk _ A' R' (outH h1 fo c9 r9) _ (some (vI c9)) (some (vI r9)) hCl (by rw [hm9]; exact hx') (out_556 ho)
  rw [hpr] at k9
  refine go_if_ne hM rfl (by omega) (fun e9 => ?_) (fun e9 => ?_)
  · repeat (first | exact k9 | refine go_pure hM rfl ?_)
  · repeat (refine go_pure hM rfl ?_)
    refine go_lald hM rfl (hr_556 (hp_out (out_556 ho))) (by omega) (by omega) (by omega) ?_
    have e6 : (if c9 = 0 then gF fo 0 (Int32.ofInt r9).toInt64 else fo) (Int.toNat 0) = (Int32.ofInt r9).toInt64 := by rw [if_pos e9]; rfl
    rw [e6]
    have h01 : r9 = 0 ∨ r9 = 1 := wrt_01 hp
    have e8 : (lg_cmp (Int32.ofInt r9).toInt64 (if r9 = 0 then Int64.ofNat 0 else Int64.ofNat 1)).toInt = 0 := by
      rcases h01 with e | e <;> rw [e] <;> exact lg_self _
    repeat (refine go_pure hM rfl ?_)
    refine go_if_eq hM rfl (by omega) (fun e7 => ?_) (fun e7 => ?_)
    · rw [if_pos e7] at e8
      repeat (refine go_pure hM rfl ?_)
      refine go_lconst hM rfl ?_
      repeat (refine go_pure hM rfl ?_)
      refine go_lcmp hM rfl ?_
      refine go_if_eq hM rfl (rng0 e8) (fun _ => ?_) (fun e7 => absurd e8 e7)
      repeat (first | exact k9 | refine go_pure hM rfl ?_)
    · rw [if_neg e7] at e8
      repeat (refine go_pure hM rfl ?_)
      refine go_lconst hM rfl ?_
      repeat (refine go_pure hM rfl ?_)
      refine go_lcmp hM rfl ?_
      refine go_if_eq hM rfl (rng0 e8) (fun _ => ?_) (fun e7 => absurd e8 e7)
      repeat (first | exact k9 | refine go_pure hM rfl ?_)
set_option maxRecDepth 8000 in
set_option maxHeartbeats 8000000 in
theorem law_reach (hc : Cl A SS) (hx : RX R SS (aM A)) (ho : h1 556 = some (eO fo)) (hi : 1 ≤ i ∧ i + 6 ≤ gL G) (hL : gL G ≤ 3073) (kk : ∀ (SS' : Nat → mS) (A' : cA) (R' : rA) (h' : gH) (fo' : Nat → Int64) (k' b' : Option gV), Cl A' SS' → RX R' SS' (aM A') → h' 556 = some (eO fo') → Go G m_Law_law F 1016 [some (vR 0), some (vR 1), some (vR 541), some (vR 556), some (vI i), k', b'] [] none (hpx A' (hrx R' h')) c s) : Go G m_Law_law F 731 [some (vR 0), some (vR 1), some (vR 541), some (vR 556), some (vI i), k, b] [] none (hpx A (hrx R h1)) (c + 1) (s + 6) := by
  have hM := ok_Law_law
  have hg : Gd SS (aM A) := (cl_cx.mp hc).1.gd rfl
  have r1 := scr_r G (i + 1)
  have r2 := scr_r G (i + 2)
  repeat (refine go_pure hM rfl ?_)
  refine go_scr hM rfl (by omega) (by omega) (by omega) ?_
  repeat (refine go_pure hM rfl ?_)
  refine go_scr hM rfl (by omega) (by omega) (by omega) ?_
  repeat (refine go_pure hM rfl ?_)
  refine go_callSX (mc := 1) (ms := 6) (c := c) (s := s) hM rfl okX_reach rfl rfl (L_reach hc (hr_556 ho) r1 r2) rfl (fun v9 N9 h9 hq => ?_) (fun _ _ q => q.elim)
  obtain ⟨c9, r9, SS', A', rfl, rfl, hp, hcr, hCl, hm9, rfl⟩ := hq
  refine go_heap (by rw [out_hr, hpr]) ?_
  repeat (refine go_pure hM rfl ?_)
  refine go_scr hM rfl (by omega) (by omega) (by omega) ?_
  repeat (refine go_pure hM rfl ?_)
  refine go_scr hM rfl (by omega) (by omega) (by omega) ?_
  repeat (refine go_pure hM rfl ?_)
  obtain ⟨hp, rfl⟩ := hp
  refine go_callV (mc := 0) (ms := 0) (c := c) (s := s) hM rfl rfl rfl hr_o rfl (m_reach hx hg r1 r2 hp) rfl (fun v9 N9 h9 hq => ?_) (fun _ _ q => q.elim)
  obtain ⟨rfl, rfl, R', hx', hR, rfl⟩ := hq
  repeat (refine go_pure hM rfl ?_)
  refine go_cV hM rfl rfl rfl hr_o rfl m_thrown rfl ?_
  repeat (refine go_pure hM rfl ?_)
  refine go_icmp_eq hM rfl (by omega) (by omega) (fun _ => ?_) (fun e9 => absurd hR e9)
  repeat (refine go_pure hM rfl ?_)
  have k9 := kk _ A' R' (outH h1 fo c9 r9) _ (some (vI c9)) (some (vI r9)) hCl (by rw [hm9]; exact hx') (out_556 ho)
  rw [hpr] at k9
  refine go_if_ne hM rfl (by omega) (fun e9 => ?_) (fun e9 => ?_)
  · repeat (first | exact k9 | refine go_pure hM rfl ?_)
  · repeat (refine go_pure hM rfl ?_)
    refine go_lald hM rfl (hr_556 (hp_out (out_556 ho))) (by omega) (by omega) (by omega) ?_
    have e6 : (if c9 = 0 then gF fo 0 (Int32.ofInt r9).toInt64 else fo) (Int.toNat 0) = (Int32.ofInt r9).toInt64 := by rw [if_pos e9]; rfl
    rw [e6]
    repeat (refine go_pure hM rfl ?_)
    refine go_i2l hM rfl ?_
    refine go_lcmp hM rfl ?_
    have e8 := lg_self (Int32.ofInt r9).toInt64
    refine go_if_eq hM rfl (rng0 e8) (fun _ => ?_) (fun e7 => absurd e8 e7)
    repeat (first | exact k9 | refine go_pure hM rfl ?_)
set_option maxRecDepth 8000 in
set_option maxHeartbeats 8000000 in
theorem law_count (hc : Cl A SS) (hx : RX R SS (aM A)) (ho : h1 556 = some (eO fo)) (hi : 1 ≤ i ∧ i + 6 ≤ gL G) (hL : gL G ≤ 3073) (kk : ∀ (SS' : Nat → mS) (A' : cA) (R' : rA) (h' : gH) (fo' : Nat → Int64) (k' b' : Option gV), Cl A' SS' → RX R' SS' (aM A') → h' 556 = some (eO fo') → Go G m_Law_law F 1016 [some (vR 0), some (vR 1), some (vR 541), some (vR 556), some (vI i), k', b'] [] none (hpx A' (hrx R' h')) c s) : Go G m_Law_law F 799 [some (vR 0), some (vR 1), some (vR 541), some (vR 556), some (vI i), k, b] [] none (hpx A (hrx R h1)) (c + 1) (s + 6) := by
  have hM := ok_Law_law
  have hg : Gd SS (aM A) := (cl_cx.mp hc).1.gd rfl
  have r1 := scr_r G (i + 1)
  have r2 := scr_r G (i + 2)
  repeat (refine go_pure hM rfl ?_)
  refine go_scr hM rfl (by omega) (by omega) (by omega) ?_
  repeat (refine go_pure hM rfl ?_)
  refine go_scr hM rfl (by omega) (by omega) (by omega) ?_
  repeat (refine go_pure hM rfl ?_)
  refine go_callSX (mc := 1) (ms := 6) (c := c) (s := s) hM rfl okX_count rfl rfl (L_count hc (hr_556 ho) r1 r2) rfl (fun v9 N9 h9 hq => ?_) (fun _ _ q => q.elim)
  obtain ⟨c9, r9, SS', A', rfl, rfl, hp, hcr, hCl, hm9, rfl⟩ := hq
  refine go_heap (by rw [out_hr, hpr]) ?_
  repeat (refine go_pure hM rfl ?_)
  refine go_scr hM rfl (by omega) (by omega) (by omega) ?_
  repeat (refine go_pure hM rfl ?_)
  refine go_scr hM rfl (by omega) (by omega) (by omega) ?_
  repeat (refine go_pure hM rfl ?_)
  obtain ⟨hp, rfl⟩ := hp
  refine go_callV (mc := 0) (ms := 0) (c := c) (s := s) hM rfl rfl rfl hr_o rfl (m_count hx hg r1 r2 hp) rfl (fun v9 N9 h9 hq => ?_) (fun _ _ q => q.elim)
  obtain ⟨rfl, rfl, R', hx', hR, rfl⟩ := hq
  repeat (refine go_pure hM rfl ?_)
  refine go_cV hM rfl rfl rfl hr_o rfl m_thrown rfl ?_
  repeat (refine go_pure hM rfl ?_)
  refine go_icmp_eq hM rfl (by omega) (by omega) (fun _ => ?_) (fun e9 => absurd hR e9)
  repeat (refine go_pure hM rfl ?_)
  have k9 := kk _ A' R' (outH h1 fo c9 r9) _ (some (vI c9)) (some (vI r9)) hCl (by rw [hm9]; exact hx') (out_556 ho)
  rw [hpr] at k9
  refine go_if_ne hM rfl (by omega) (fun e9 => ?_) (fun e9 => ?_)
  · repeat (first | exact k9 | refine go_pure hM rfl ?_)
  · repeat (refine go_pure hM rfl ?_)
    refine go_lald hM rfl (hr_556 (hp_out (out_556 ho))) (by omega) (by omega) (by omega) ?_
    have e6 : (if c9 = 0 then gF fo 0 (Int32.ofInt r9).toInt64 else fo) (Int.toNat 0) = (Int32.ofInt r9).toInt64 := by rw [if_pos e9]; rfl
    rw [e6]
    repeat (refine go_pure hM rfl ?_)
    refine go_i2l hM rfl ?_
    refine go_lcmp hM rfl ?_
    have e8 := lg_self (Int32.ofInt r9).toInt64
    refine go_if_eq hM rfl (rng0 e8) (fun _ => ?_) (fun e7 => absurd e8 e7)
    repeat (first | exact k9 | refine go_pure hM rfl ?_)
set_option maxRecDepth 8000 in
set_option maxHeartbeats 8000000 in
theorem law_rootByte (hc : Cl A SS) (hx : RX R SS (aM A)) (ho : h1 556 = some (eO fo)) (hi : 1 ≤ i ∧ i + 6 ≤ gL G) (hL : gL G ≤ 3073) (kk : ∀ (SS' : Nat → mS) (A' : cA) (R' : rA) (h' : gH) (fo' : Nat → Int64) (k' b' : Option gV), Cl A' SS' → RX R' SS' (aM A') → h' 556 = some (eO fo') → Go G m_Law_law F 1016 [some (vR 0), some (vR 1), some (vR 541), some (vR 556), some (vI i), k', b'] [] none (hpx A' (hrx R' h')) c s) : Go G m_Law_law F 880 [some (vR 0), some (vR 1), some (vR 541), some (vR 556), some (vI i), k, b] [] none (hpx A (hrx R h1)) (c + 1) (s + 6) := by
  have hM := ok_Law_law
  have hg : Gd SS (aM A) := (cl_cx.mp hc).1.gd rfl
  have r1 := scr_r G (i + 1)
  have r2 := scr_r G (i + 2)
  repeat (refine go_pure hM rfl ?_)
  refine go_scr hM rfl (by omega) (by omega) (by omega) ?_
  repeat (refine go_pure hM rfl ?_)
  refine go_scr hM rfl (by omega) (by omega) (by omega) ?_
  repeat (refine go_pure hM rfl ?_)
  refine go_callSX (mc := 1) (ms := 6) (c := c) (s := s) hM rfl okX_rootByte rfl rfl (L_rootByte hc (hr_556 ho) r1 r2) rfl (fun v9 N9 h9 hq => ?_) (fun _ _ q => q.elim)
  obtain ⟨c9, r9, SS', A', rfl, rfl, hp, hcr, hCl, hm9, rfl⟩ := hq
  refine go_heap (by rw [out_hr, hpr]) ?_
  repeat (refine go_pure hM rfl ?_)
  refine go_scr hM rfl (by omega) (by omega) (by omega) ?_
  repeat (refine go_pure hM rfl ?_)
  refine go_scr hM rfl (by omega) (by omega) (by omega) ?_
  repeat (refine go_pure hM rfl ?_)
  obtain ⟨hp, rfl⟩ := hp
  refine go_callV (mc := 0) (ms := 0) (c := c) (s := s) hM rfl rfl rfl hr_o rfl (m_rootByte hx hg r1 r2 hp) rfl (fun v9 N9 h9 hq => ?_) (fun _ _ q => q.elim)
  obtain ⟨rfl, rfl, R', hx', hR, rfl⟩ := hq
  repeat (refine go_pure hM rfl ?_)
  refine go_cV hM rfl rfl rfl hr_o rfl m_thrown rfl ?_
  repeat (refine go_pure hM rfl ?_)
  refine go_icmp_eq hM rfl (by omega) (by omega) (fun _ => ?_) (fun e9 => absurd hR e9)
  repeat (refine go_pure hM rfl ?_)
  have k9 := kk _ A' R' (outH h1 fo c9 r9) _ (some (vI c9)) (some (vI r9)) hCl (by rw [hm9]; exact hx') (out_556 ho)
  rw [hpr] at k9
  refine go_if_ne hM rfl (by omega) (fun e9 => ?_) (fun e9 => ?_)
  · repeat (first | exact k9 | refine go_pure hM rfl ?_)
  · repeat (refine go_pure hM rfl ?_)
    refine go_lald hM rfl (hr_556 (hp_out (out_556 ho))) (by omega) (by omega) (by omega) ?_
    have e6 : (if c9 = 0 then gF fo 0 (Int32.ofInt r9).toInt64 else fo) (Int.toNat 0) = (Int32.ofInt r9).toInt64 := by rw [if_pos e9]; rfl
    rw [e6]
    repeat (refine go_pure hM rfl ?_)
    refine go_i2l hM rfl ?_
    refine go_lcmp hM rfl ?_
    have e8 := lg_self (Int32.ofInt r9).toInt64
    refine go_if_eq hM rfl (rng0 e8) (fun _ => ?_) (fun e7 => absurd e8 e7)
    repeat (first | exact k9 | refine go_pure hM rfl ?_)
set_option maxRecDepth 8000 in
set_option maxHeartbeats 8000000 in
theorem law_nodeByte (hc : Cl A SS) (hx : RX R SS (aM A)) (ho : h1 556 = some (eO fo)) (hi : 1 ≤ i ∧ i + 6 ≤ gL G) (hL : gL G ≤ 3073) (kk : ∀ (SS' : Nat → mS) (A' : cA) (R' : rA) (h' : gH) (fo' : Nat → Int64) (k' b' : Option gV), Cl A' SS' → RX R' SS' (aM A') → h' 556 = some (eO fo') → Go G m_Law_law F 1016 [some (vR 0), some (vR 1), some (vR 541), some (vR 556), some (vI i), k', b'] [] none (hpx A' (hrx R' h')) c s) : Go G m_Law_law F 948 [some (vR 0), some (vR 1), some (vR 541), some (vR 556), some (vI i), k, b] [] none (hpx A (hrx R h1)) (c + 1) (s + 6) := by
  have hM := ok_Law_law
  have hg : Gd SS (aM A) := (cl_cx.mp hc).1.gd rfl
  have r1 := scr_r G (i + 1)
  have r2 := scr_r G (i + 2)
  repeat (refine go_pure hM rfl ?_)
  refine go_scr hM rfl (by omega) (by omega) (by omega) ?_
  repeat (refine go_pure hM rfl ?_)
  refine go_scr hM rfl (by omega) (by omega) (by omega) ?_
  repeat (refine go_pure hM rfl ?_)
  refine go_callSX (mc := 1) (ms := 6) (c := c) (s := s) hM rfl okX_nodeByte rfl rfl (L_nodeByte hc (hr_556 ho) r1 r2) rfl (fun v9 N9 h9 hq => ?_) (fun _ _ q => q.elim)
  obtain ⟨c9, r9, SS', A', rfl, rfl, hp, hcr, hCl, hm9, rfl⟩ := hq
  refine go_heap (by rw [out_hr, hpr]) ?_
  repeat (refine go_pure hM rfl ?_)
  refine go_scr hM rfl (by omega) (by omega) (by omega) ?_
  repeat (refine go_pure hM rfl ?_)
  refine go_scr hM rfl (by omega) (by omega) (by omega) ?_
  repeat (refine go_pure hM rfl ?_)
  obtain ⟨hp, rfl⟩ := hp
  refine go_callV (mc := 0) (ms := 0) (c := c) (s := s) hM rfl rfl rfl hr_o rfl (m_nodeByte hx hg r1 r2 hp) rfl (fun v9 N9 h9 hq => ?_) (fun _ _ q => q.elim)
  obtain ⟨rfl, rfl, R', hx', hR, rfl⟩ := hq
  repeat (refine go_pure hM rfl ?_)
  refine go_cV hM rfl rfl rfl hr_o rfl m_thrown rfl ?_
  repeat (refine go_pure hM rfl ?_)
  refine go_icmp_eq hM rfl (by omega) (by omega) (fun _ => ?_) (fun e9 => absurd hR e9)
  repeat (refine go_pure hM rfl ?_)
  have k9 := kk _ A' R' (outH h1 fo c9 r9) _ (some (vI c9)) (some (vI r9)) hCl (by rw [hm9]; exact hx') (out_556 ho)
  rw [hpr] at k9
  refine go_if_ne hM rfl (by omega) (fun e9 => ?_) (fun e9 => ?_)
  · repeat (first | exact k9 | refine go_pure hM rfl ?_)
  · repeat (refine go_pure hM rfl ?_)
    refine go_lald hM rfl (hr_556 (hp_out (out_556 ho))) (by omega) (by omega) (by omega) ?_
    have e6 : (if c9 = 0 then gF fo 0 (Int32.ofInt r9).toInt64 else fo) (Int.toNat 0) = (Int32.ofInt r9).toInt64 := by rw [if_pos e9]; rfl
    rw [e6]
    repeat (refine go_pure hM rfl ?_)
    refine go_i2l hM rfl ?_
    refine go_lcmp hM rfl ?_
    have e8 := lg_self (Int32.ofInt r9).toInt64
    refine go_if_eq hM rfl (rng0 e8) (fun _ => ?_) (fun e7 => absurd e8 e7)
    repeat (first | exact k9 | refine go_pure hM rfl ?_)
end
