/-! the reference's constructor -/
def hmx (o : gE) (k : Nat) (h : gH) : gH := fun c => if c = 541 then some o else if 542 ≤ c ∧ c < 542 + k then some (eAr (c - 542) (fun _ => 0)) else h c
def R0 (m : Nat) : rA := (0, (m : Int), fun k => if k = 10 then gF (fun _ => 0) 0 1 else fun _ => 0)
section
variable {G : gG} {M : gM} {F : gK → State → Prop} {pc : Nat} {lv : List (Option gV)} {st : List gV} {N : Option Nat} {h h' : gH} {c s k : Nat} {o o' : gE} {x : Int}
theorem go_heap (e : h = h') (kk : Go G M F pc lv st N h' c s) : Go G M F pc lv st N h c s := by
  rw [e]
  exact kk
theorem hmx_o : hmx o k h 541 = some o := if_pos rfl
theorem hmx_s : gU (gU (hmx o k h) (542 + k) (eAr k (fun _ => 0))) 541 o' = hmx o' (k + 1) h := by
  funext c
  by_cases c1 : c = 541
  · rw [c1, gU_s, hmx_o]
  · rw [gU_n c1]
    by_cases c2 : c = 542 + k
    · rw [c2, gU_s]
      unfold hmx
      rw [if_neg (by omega), if_pos (by omega), show 542 + k - 542 = k by omega]
    · rw [gU_n c2]
      unfold hmx
      rw [if_neg c1, if_neg c1]
      by_cases c3 : 542 ≤ c ∧ c < 542 + k
      · rw [if_pos c3, if_pos (by omega)]
      · rw [if_neg c3, if_neg (by omega)]
theorem hmx_0 (he : h 541 = some o) : h = hmx o 0 h := by
  funext c
  unfold hmx
  by_cases c1 : c = 541
  · rw [if_pos c1, c1, he]
  · rw [if_neg c1, if_neg (by omega)]
theorem hmx_14 {y : Int} : gU (gU (hmx o 14 h) 541 (eMo 0 y)) 552 (.inl (4, 256, .inl (gF (fun _ => 0) 0 1))) = hrx (0, y, fun k => if k = 10 then gF (fun _ => 0) 0 1 else fun _ => 0) h := by
  funext c
  by_cases c2 : c = 552
  · rw [c2, gU_s, hr_T]
    rfl
  · rw [gU_n c2]
    by_cases c1 : c = 541
    · rw [c1, gU_s, hr_o]
    · rw [gU_n c1]
      unfold hmx hrx
      rw [if_neg c1, if_neg c1]
      by_cases c3 : 542 ≤ c ∧ c < 556
      · rw [if_pos (show 542 ≤ c ∧ c < 542 + 14 by omega), if_pos c3]
        obtain ⟨k, hk⟩ : ∃ k, c - 542 = k := ⟨_, rfl⟩
        rw [hk]
        have e9 : (if k = 10 then gF (fun _ => (0 : Int)) 0 1 else fun _ => 0) = fun _ => 0 := if_neg (by omega)
        exact congrArg (fun f => some (eAr k f)) e9.symm
      · rw [if_neg (show ¬ (542 ≤ c ∧ c < 542 + 14) by omega), if_neg c3]
set_option maxHeartbeats 4000000 in
theorem m_Mod_init0 (rx : (-2147483648 ≤ x ∧ x ≤ 2147483647)) (h1 : h 541 = some (.inr (4, [vI 0, vI 0, vN, vN, vN, vN, vN, vN, vN, vN, vN, vN, vN, vN, vN, vN]))) : Rn G m_Mod_init [vR 541, vI x] (some 542) h 14 89789 (gEq none (some 556) (hrx (R0 (mCl x)) h)) gNo := by
  refine Rn.of rfl rfl rfl ?_
  have hM := ok_Mod_init
  refine go_heap (hmx_0 h1) ?_
  repeat (first | refine go_pure hM rfl ?_ | refine go_get hM rfl hr_o rfl ?_ | refine go_ldc hM rfl ?_)
  refine go_obj hM rfl rfl ?_
  repeat (first | refine go_pure hM rfl ?_ | refine go_get hM rfl hr_o rfl ?_ | refine go_ldc hM rfl ?_)
  refine go_room (c := 13 + 1) (s := 89784 + 5) (by omega) (by omega) ?_
  refine go_newI (n := 542) (ln := 5) hM rfl (by omega) rfl (by omega) ?_
  refine go_put hM rfl (by rw [gU_n (by omega)]; exact hmx_o) rfl rfl ?_
  refine go_heap (hmx_s (k := 0) (o' := .inr (4, [vI 0, vI 0, vR 542, vN, vN, vN, vN, vN, vN, vN, vN, vN, vN, vN, vN, vN]))) ?_
  repeat (first | refine go_pure hM rfl ?_ | refine go_get hM rfl hr_o rfl ?_ | refine go_ldc hM rfl ?_)
  refine go_room (c := 12 + 1) (s := 68184 + 21600) (by omega) (by omega) ?_
  refine go_newI (n := 543) (ln := 21600) hM rfl (by omega) rfl (by omega) ?_
  refine go_put hM rfl (by rw [gU_n (by omega)]; exact hmx_o) rfl rfl ?_
  refine go_heap (hmx_s (k := 1) (o' := .inr (4, [vI 0, vI 0, vR 542, vR 543, vN, vN, vN, vN, vN, vN, vN, vN, vN, vN, vN, vN]))) ?_
  repeat (first | refine go_pure hM rfl ?_ | refine go_get hM rfl hr_o rfl ?_ | refine go_ldc hM rfl ?_)
  refine go_room (c := 11 + 1) (s := 46584 + 21600) (by omega) (by omega) ?_
  refine go_newI (n := 544) (ln := 21600) hM rfl (by omega) rfl (by omega) ?_
  refine go_put hM rfl (by rw [gU_n (by omega)]; exact hmx_o) rfl rfl ?_
  refine go_heap (hmx_s (k := 2) (o' := .inr (4, [vI 0, vI 0, vR 542, vR 543, vR 544, vN, vN, vN, vN, vN, vN, vN, vN, vN, vN, vN]))) ?_
  repeat (first | refine go_pure hM rfl ?_ | refine go_get hM rfl hr_o rfl ?_ | refine go_ldc hM rfl ?_)
  refine go_room (c := 10 + 1) (s := 24984 + 21600) (by omega) (by omega) ?_
  refine go_newI (n := 545) (ln := 21600) hM rfl (by omega) rfl (by omega) ?_
  refine go_put hM rfl (by rw [gU_n (by omega)]; exact hmx_o) rfl rfl ?_
  refine go_heap (hmx_s (k := 3) (o' := .inr (4, [vI 0, vI 0, vR 542, vR 543, vR 544, vR 545, vN, vN, vN, vN, vN, vN, vN, vN, vN, vN]))) ?_
  repeat (first | refine go_pure hM rfl ?_ | refine go_get hM rfl hr_o rfl ?_ | refine go_ldc hM rfl ?_)
  refine go_room (c := 9 + 1) (s := 3384 + 21600) (by omega) (by omega) ?_
  refine go_newZ (n := 546) (ln := 21600) hM rfl (by omega) rfl (by omega) ?_
  refine go_put hM rfl (by rw [gU_n (by omega)]; exact hmx_o) rfl rfl ?_
  refine go_heap (hmx_s (k := 4) (o' := .inr (4, [vI 0, vI 0, vR 542, vR 543, vR 544, vR 545, vR 546, vN, vN, vN, vN, vN, vN, vN, vN, vN]))) ?_
  repeat (first | refine go_pure hM rfl ?_ | refine go_get hM rfl hr_o rfl ?_ | refine go_ldc hM rfl ?_)
  refine go_room (c := 8 + 1) (s := 3380 + 4) (by omega) (by omega) ?_
  refine go_newI (n := 547) (ln := 4) hM rfl (by omega) rfl (by omega) ?_
  refine go_put hM rfl (by rw [gU_n (by omega)]; exact hmx_o) rfl rfl ?_
  refine go_heap (hmx_s (k := 5) (o' := .inr (4, [vI 0, vI 0, vR 542, vR 543, vR 544, vR 545, vR 546, vR 547, vN, vN, vN, vN, vN, vN, vN, vN]))) ?_
  repeat (first | refine go_pure hM rfl ?_ | refine go_get hM rfl hr_o rfl ?_ | refine go_ldc hM rfl ?_)
  refine go_room (c := 7 + 1) (s := 3376 + 4) (by omega) (by omega) ?_
  refine go_newI (n := 548) (ln := 4) hM rfl (by omega) rfl (by omega) ?_
  refine go_put hM rfl (by rw [gU_n (by omega)]; exact hmx_o) rfl rfl ?_
  refine go_heap (hmx_s (k := 6) (o' := .inr (4, [vI 0, vI 0, vR 542, vR 543, vR 544, vR 545, vR 546, vR 547, vR 548, vN, vN, vN, vN, vN, vN, vN]))) ?_
  repeat (first | refine go_pure hM rfl ?_ | refine go_get hM rfl hr_o rfl ?_ | refine go_ldc hM rfl ?_)
  refine go_room (c := 6 + 1) (s := 1840 + 1536) (by omega) (by omega) ?_
  refine go_newI (n := 549) (ln := 1536) hM rfl (by omega) rfl (by omega) ?_
  refine go_put hM rfl (by rw [gU_n (by omega)]; exact hmx_o) rfl rfl ?_
  refine go_heap (hmx_s (k := 7) (o' := .inr (4, [vI 0, vI 0, vR 542, vR 543, vR 544, vR 545, vR 546, vR 547, vR 548, vR 549, vN, vN, vN, vN, vN, vN]))) ?_
  repeat (first | refine go_pure hM rfl ?_ | refine go_get hM rfl hr_o rfl ?_ | refine go_ldc hM rfl ?_)
  refine go_room (c := 5 + 1) (s := 304 + 1536) (by omega) (by omega) ?_
  refine go_newI (n := 550) (ln := 1536) hM rfl (by omega) rfl (by omega) ?_
  refine go_put hM rfl (by rw [gU_n (by omega)]; exact hmx_o) rfl rfl ?_
  refine go_heap (hmx_s (k := 8) (o' := .inr (4, [vI 0, vI 0, vR 542, vR 543, vR 544, vR 545, vR 546, vR 547, vR 548, vR 549, vR 550, vN, vN, vN, vN, vN]))) ?_
  repeat (first | refine go_pure hM rfl ?_ | refine go_get hM rfl hr_o rfl ?_ | refine go_ldc hM rfl ?_)
  refine go_room (c := 4 + 1) (s := 280 + 24) (by omega) (by omega) ?_
  refine go_newI (n := 551) (ln := 24) hM rfl (by omega) rfl (by omega) ?_
  refine go_put hM rfl (by rw [gU_n (by omega)]; exact hmx_o) rfl rfl ?_
  refine go_heap (hmx_s (k := 9) (o' := .inr (4, [vI 0, vI 0, vR 542, vR 543, vR 544, vR 545, vR 546, vR 547, vR 548, vR 549, vR 550, vR 551, vN, vN, vN, vN]))) ?_
  repeat (first | refine go_pure hM rfl ?_ | refine go_get hM rfl hr_o rfl ?_ | refine go_ldc hM rfl ?_)
  refine go_room (c := 3 + 1) (s := 24 + 256) (by omega) (by omega) ?_
  refine go_newZ (n := 552) (ln := 256) hM rfl (by omega) rfl (by omega) ?_
  refine go_put hM rfl (by rw [gU_n (by omega)]; exact hmx_o) rfl rfl ?_
  refine go_heap (hmx_s (k := 10) (o' := .inr (4, [vI 0, vI 0, vR 542, vR 543, vR 544, vR 545, vR 546, vR 547, vR 548, vR 549, vR 550, vR 551, vR 552, vN, vN, vN]))) ?_
  repeat (first | refine go_pure hM rfl ?_ | refine go_get hM rfl hr_o rfl ?_ | refine go_ldc hM rfl ?_)
  refine go_room (c := 2 + 1) (s := 16 + 8) (by omega) (by omega) ?_
  refine go_newI (n := 553) (ln := 8) hM rfl (by omega) rfl (by omega) ?_
  refine go_put hM rfl (by rw [gU_n (by omega)]; exact hmx_o) rfl rfl ?_
  refine go_heap (hmx_s (k := 11) (o' := .inr (4, [vI 0, vI 0, vR 542, vR 543, vR 544, vR 545, vR 546, vR 547, vR 548, vR 549, vR 550, vR 551, vR 552, vR 553, vN, vN]))) ?_
  repeat (first | refine go_pure hM rfl ?_ | refine go_get hM rfl hr_o rfl ?_ | refine go_ldc hM rfl ?_)
  refine go_room (c := 1 + 1) (s := 8 + 8) (by omega) (by omega) ?_
  refine go_newI (n := 554) (ln := 8) hM rfl (by omega) rfl (by omega) ?_
  refine go_put hM rfl (by rw [gU_n (by omega)]; exact hmx_o) rfl rfl ?_
  refine go_heap (hmx_s (k := 12) (o' := .inr (4, [vI 0, vI 0, vR 542, vR 543, vR 544, vR 545, vR 546, vR 547, vR 548, vR 549, vR 550, vR 551, vR 552, vR 553, vR 554, vN]))) ?_
  repeat (first | refine go_pure hM rfl ?_ | refine go_get hM rfl hr_o rfl ?_ | refine go_ldc hM rfl ?_)
  refine go_room (c := 0 + 1) (s := 0 + 8) (by omega) (by omega) ?_
  refine go_newI (n := 555) (ln := 8) hM rfl (by omega) rfl (by omega) ?_
  refine go_put hM rfl (by rw [gU_n (by omega)]; exact hmx_o) rfl rfl ?_
  refine go_heap (hmx_s (k := 13) (o' := .inr (4, [vI 0, vI 0, vR 542, vR 543, vR 544, vR 545, vR 546, vR 547, vR 548, vR 549, vR 550, vR 551, vR 552, vR 553, vR 554, vR 555]))) ?_
  have fin : ∀ z : Int, z = ((mCl x : Nat) : Int) → Go G m_Mod_init (gFin G (gEq none (some 556) (hrx (R0 (mCl x)) h)) gNo) 142 [some (vR 541), some (vI x)] [vI z, vR 541] (some 556) (hmx (.inr (4, [vI 0, vI 0, vR 542, vR 543, vR 544, vR 545, vR 546, vR 547, vR 548, vR 549, vR 550, vR 551, vR 552, vR 553, vR 554, vR 555])) 14 h) 0 0 := by
    intro z hz
    rw [hz]
    refine go_put hM rfl hmx_o rfl rfl ?_
    refine go_pure hM rfl ?_
    refine go_get hM rfl (gU_s _ _ _) rfl ?_
    refine go_pure hM rfl ?_
    refine go_pure hM rfl ?_
    refine go_zast (f := fun _ => 0) (n := 256) hM rfl (by rw [gU_n (by omega)]; rfl) (by omega) (by omega) (by omega) (Or.inr rfl) ?_
    refine go_heap (hmx_14 (y := ((mCl x : Nat) : Int))) ?_
    exact go_vret hM rfl rfl ⟨rfl, rfl, rfl⟩
  repeat (first | refine go_pure hM rfl ?_ | refine go_get hM rfl hr_o rfl ?_ | refine go_ldc hM rfl ?_)
  refine go_icmp_ge hM rfl rx (by omega) (fun g1 => ?_) (fun g1 => ?_)
  · repeat (first | refine go_pure hM rfl ?_ | refine go_get hM rfl hr_o rfl ?_ | refine go_ldc hM rfl ?_)
    refine go_icmp_le hM rfl rx (by omega) (fun g2 => ?_) (fun g2 => ?_)
    · have n1 := fin x (by unfold mCl; split <;> split <;> omega)
      repeat (first | exact n1 | refine go_pure hM rfl ?_ | refine go_get hM rfl hr_o rfl ?_ | refine go_ldc hM rfl ?_)
    · have n1 := fin 84 (by unfold mCl; split <;> split <;> omega)
      repeat (first | exact n1 | refine go_pure hM rfl ?_ | refine go_get hM rfl hr_o rfl ?_ | refine go_ldc hM rfl ?_)
  · have n1 := fin 5 (by unfold mCl; split <;> split <;> omega)
    repeat (first | exact n1 | refine go_pure hM rfl ?_ | refine go_get hM rfl hr_o rfl ?_ | refine go_ldc hM rfl ?_)
end
section
variable {m : Nat}
theorem rx_0 : RX (R0 m) (fun t => sE t) m := by
  have kz : ∀ g l, KS (fun t => sE t) g l = 0 := fun g l => if_neg (by show ¬ l < 0; omega)
  have no : ∀ b t l p, ¬ mOwn (fun t => sE t) b t l p := fun b t l p z => absurd z.2.1 (Nat.not_lt_zero _)
  refine ⟨⟨rfl, fun g _ => ⟨rfl, rfl⟩, ⟨fun l _ => ?_, fun g _ l _ => ?_, fun g _ l _ p hp => ?_⟩, rfl, fun b b1 b2 => Or.inr ⟨?_, fun ⟨t, l, p, z⟩ => no b t l p z⟩⟩, ?_, fun g hg => ?_, fun g _ i hi => absurd hi (Nat.not_lt_zero _)⟩
  · have : oF (KS (fun t => sE t)) l 4 = 0 := by
      unfold oF
      rw [sm_congr (g := fun _ => 0) (fun g _ => kz g l)]
      rfl
    omega
  · rw [kz]
    rfl
  · rw [kz] at hp
    exact absurd hp (Nat.not_lt_zero _)
  · show gF (fun _ => 0) 0 1 b = (0 : Int)
    rw [gF_n (by omega)]
  · show 0 + 0 + 0 + 0 + 0 ≤ 21500
    omega
  · have : ∀ n, bg (fun t => sE t) n = 0 := by
      intro n
      induction n with
      | zero => rfl
      | succ n ih =>
        show bg (fun t => sE t) n + 0 = 0
        rw [ih]
    rw [this]
    rfl
theorem cl_0 (hm : 5 ≤ m ∧ m ≤ 84) : Cl (A0 m) (fun t => sE t) := by
  have no : ∀ b t l p, ¬ mOwn (fun t => sE t) b t l p := fun b t l p z => absurd z.2.1 (Nat.not_lt_zero _)
  refine cl_cx.mpr ⟨⟨⟨hm.1, hm.2, fun i _ => ⟨⟨Int.le_refl _, ?_⟩, ⟨Int.le_refl _, by show (0 : Int) ≤ 5; omega⟩, fun q => ⟨Int.le_refl _, by show (0 : Int) ≤ 16777216; omega⟩⟩⟩, fun t ht => ⟨sE_sh ht, sE_rn, fun l hl p hp => ⟨?_, ?_, fun j hj => absurd hj (Nat.not_lt_zero _)⟩, rfl, rfl, rfl⟩, fun b t l p t' l' p' z => absurd z (no b t l p), fun b b1 b2 => Or.inr ⟨rfl, rfl, fun z => z, fun ⟨t, l, p, z⟩ => no b t l p z⟩, fun b z => z.elim, rfl, ?_⟩, fun t _ => ⟨rfl, rfl⟩⟩
  · show (0 : Int) ≤ _
    omega
  · have hl : l ≤ 0 := hl
    rw [show l = 0 by omega]
    rfl
  · rfl
  · have : ∀ n : Nat, cnF (fun _ => 0) n = n := by
      intro n
      induction n with
      | zero => rfl
      | succ n ih =>
        show cnF (fun _ => 0) n + (if (0 : Int) = 0 then 1 else 0) = _
        rw [ih, if_pos rfl]
        omega
    exact (this 255).symm
end
