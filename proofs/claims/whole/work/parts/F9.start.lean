/-! the law from its entry -/
section
variable {G : gG} {F : gK → State → Prop}
theorem hr_up {R : rA} {h : gH} {e : gE} : gU (hrx R h) 556 e = hrx R (gU h 556 e) := by
  funext a
  by_cases e1 : a = 556
  · subst e1
    rw [gU_s]
    unfold hrx
    rw [if_neg (by omega), if_neg (by omega), gU_s]
  · rw [gU_n e1]
    unfold hrx
    rw [gU_n e1]
theorem df_3 : gDfs 3 2 = [vN, vN] := by decide +kernel
theorem df_4 : gDfs 4 16 = [vI 0, vI 0, vN, vN, vN, vN, vN, vN, vN, vN, vN, vN, vN, vN, vN, vN] := by decide +kernel
set_option maxRecDepth 8000 in
set_option maxHeartbeats 8000000 in
theorem law_walk (hL : gL G ≤ 3073) (kend : ∀ (lv : List (Option gV)) (h : gH) (c s : Nat), Go G m_Law_law F 1023 lv [vI 1] none h c s) {h : gH} (h0 : h 0 = none) : Go G m_Law_law F 0 [some (vR 0), none, none, none, none, none, none] [] (some 1) h (512 + 1 + 14 + 1 + 539 + 1) (6 * 512 + 1 + 89789 + 16 + 67458 + 2) := by
  have hM := ok_Law_law
  have r0 := cel_r G 0
  refine go_new (c := 512 + 1 + 14 + 1 + 539) (s := 6 * 512 + 1 + 89789 + 16 + 67458) (nf := 2) hM rfl (by omega) rfl ?_
  repeat (refine go_pure hM rfl ?_)
  refine go_cS hM rfl rfl rfl (L_cell (by omega) (by omega)) rfl ?_
  refine go_callI (c := 512 + 1 + 14 + 1) (s := 6 * 512 + 1 + 89789 + 16) hM rfl rfl rfl (c_ET_init r0 (by rw [gU_s, df_3])) rfl (fun v9 N9 h9 hq => ?_)
  obtain ⟨rfl, rfl, rfl⟩ := hq
  rw [hEt_4 (by rw [gU_n (by omega)]; exact h0)]
  repeat (refine go_pure hM rfl ?_)
  refine go_new (c := 512 + 1 + 14) (s := 6 * 512 + 1 + 89789) (nf := 16) hM rfl (by omega) rfl ?_
  repeat (refine go_pure hM rfl ?_)
  refine go_cS hM rfl rfl rfl (L_cell (by omega) (by omega)) rfl ?_
  refine go_callI (c := 512 + 1) (s := 6 * 512 + 1) hM rfl rfl rfl (m_Mod_init0 r0 (by rw [gU_s, df_4])) rfl (fun v9 N9 h9 hq => ?_)
  obtain ⟨rfl, rfl, rfl⟩ := hq
  repeat (refine go_pure hM rfl ?_)
  refine go_newL (c := 512) (s := 6 * 512) (ln := 1) hM rfl (by omega) rfl (by omega) ?_
  refine go_pure hM rfl ?_
  refine go_pure hM rfl ?_
  refine go_pure hM rfl ?_
  refine go_noN ?_
  rw [hp_up (by omega), ← hpr, hp_up (by omega), hr_up]
  exact law_loop hL kend 512 1 (fun t => sE t) (A0 (mCl (cel G 0))) (R0 (mCl (cel G 0))) _ (fun _ => 0) none none (by omega) (by omega) (cl_0 mCl_r) rx_0 (gU_s ..)
end
