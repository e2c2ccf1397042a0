/-! the reference's runs: one comes in, one goes, one changes -/
def sRu (R : rA) (a1 a2 a3 a4 : Nat → Int) : rA := sR (sR (sR (sR R 1 a1) 2 a2) 3 a3) 4 a4
section
variable {G : gG} {N : Option Nat} {h : gH} {R : rA} {a1 a2 a3 a4 : Nat → Int}
theorem sRu_1 : (sRu R a1 a2 a3 a4).2.2 1 = a1 := by
  show gF (gF (gF (gF R.2.2 1 a1) 2 a2) 3 a3) 4 a4 1 = a1
  rw [gF_n (by omega), gF_n (by omega), gF_n (by omega), gF_s]
theorem sRu_2 : (sRu R a1 a2 a3 a4).2.2 2 = a2 := by
  show gF (gF (gF (gF R.2.2 1 a1) 2 a2) 3 a3) 4 a4 2 = a2
  rw [gF_n (by omega), gF_n (by omega), gF_s]
theorem sRu_3 : (sRu R a1 a2 a3 a4).2.2 3 = a3 := by
  show gF (gF (gF (gF R.2.2 1 a1) 2 a2) 3 a3) 4 a4 3 = a3
  rw [gF_n (by omega), gF_s]
theorem sRu_4 : (sRu R a1 a2 a3 a4).2.2 4 = a4 := sR_s
theorem sRu_o {k : Nat} (hk : k = 0 ∨ 5 ≤ k) : (sRu R a1 a2 a3 a4).2.2 k = R.2.2 k := by
  show gF (gF (gF (gF R.2.2 1 a1) 2 a2) 3 a3) 4 a4 k = _
  rw [gF_n (by omega), gF_n (by omega), gF_n (by omega), gF_n (by omega)]
theorem sRu_z1 : zS (sRu R a1 a2 a3 a4) = a1 := sRu_1
theorem sRu_z2 : zL (sRu R a1 a2 a3 a4) = a2 := sRu_2
theorem sRu_z3 : zV (sRu R a1 a2 a3 a4) = a3 := sRu_3
theorem sRu_z4 : zW (sRu R a1 a2 a3 a4) = a4 := sRu_4
/-- the rows behind one place go to another -/
def shG (f : Nat → Int) (a b n : Nat) : Nat → Int := gCp f f a b n
set_option maxHeartbeats 2000000 in
theorem m_shift {a b e : Nat} (he : zB R 4 = (e : Int)) (ha : a ≤ e) (he2 : e ≤ 21600) (hb : b + (e - a) ≤ 21600) (h01 : ∀ i, i < e → zW R i = 0 ∨ zW R i = 1) : Rd G m_Mod_shift [vR 541, vI a, vI b] N (hrx R h) none none (hrx (sRu R (shG (zS R) a b (e - a)) (shG (zL R) a b (e - a)) (shG (zV R) a b (e - a)) (shG (zW R) a b (e - a))) h) := by
  refine Rn.of rfl rfl rfl ?_
  have hM := ok_Mod_shift
  have he : R.2.2 0 4 = (e : Int) := he
  have ta : ((a : Nat) : Int).toNat = a := by omega
  have tb : ((b : Nat) : Int).toNat = b := by omega
  have tn : (((e : Nat) : Int) - (a : Int)).toNat = e - a := by omega
  repeat (first | refine go_pure hM rfl ?_ | refine go_get hM rfl hr_o rfl ?_ | refine go_ldc hM rfl ?_)
  refine go_iald hM rfl hr_B (by omega) (by omega) (by omega) ?_
  rw [show (4 : Int).toNat = 4 from rfl, he]
  repeat (first | refine go_pure hM rfl ?_ | refine go_get hM rfl hr_o rfl ?_ | refine go_ldc hM rfl ?_)
  refine go_copy hM rfl hr_S hr_S (by omega) (by omega) (by omega) (by omega) (by omega) (by omega) (by omega) rfl ?_
  rw [ta, tb, tn, ur_S]
  repeat (first | refine go_pure hM rfl ?_ | refine go_get hM rfl hr_o rfl ?_ | refine go_ldc hM rfl ?_)
  refine go_copy hM rfl hr_L hr_L (by omega) (by omega) (by omega) (by omega) (by omega) (by omega) (by omega) rfl ?_
  rw [ta, tb, tn, ur_L]
  repeat (first | refine go_pure hM rfl ?_ | refine go_get hM rfl hr_o rfl ?_ | refine go_ldc hM rfl ?_)
  refine go_copy hM rfl hr_V hr_V (by omega) (by omega) (by omega) (by omega) (by omega) (by omega) (by omega) rfl ?_
  rw [ta, tb, tn, ur_V]
  repeat (first | refine go_pure hM rfl ?_ | refine go_get hM rfl hr_o rfl ?_ | refine go_ldc hM rfl ?_)
  refine go_copyZ hM rfl hr_W hr_W (by omega) (by omega) (by omega) (by omega) (by omega) (by omega) (by omega) rfl (fun i hi => ?_) ?_
  · rw [ta]
    rw [tn] at hi
    have e9 : (sR (sR (sR R 1 (gCp (R.2.2 1) (R.2.2 1) a b (e - a))) 2 (gCp (R.2.2 2) (R.2.2 2) a b (e - a))) 3 (gCp (R.2.2 3) (R.2.2 3) a b (e - a))).2.2 4 = R.2.2 4 := (sR_n (by omega)).trans ((sR_n (by omega)).trans (sR_n (by omega)))
    have h9 : R.2.2 4 (a + i) = 0 ∨ R.2.2 4 (a + i) = 1 := h01 (a + i) (by omega)
    rw [← e9] at h9
    exact h9
  rw [ta, tb, tn, ur_W]
  exact go_vret hM rfl rfl ⟨rfl, rfl, rfl⟩
end
