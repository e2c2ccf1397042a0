/-! the law: its table, its cell, a call of put -/
theorem all_td {α : Type} {f : α → Bool} {l : List α} (n : Nat) (h1 : (l.take n).all f = true) (h2 : (l.drop n).all f = true) : l.all f = true := by
  rw [← List.take_append_drop n l, List.all_append, h1, h2]
  rfl
theorem okl_0 : (((mT m_Law_law).drop 0).take 40).all (gOkQ m_Law_law) = true := by decide +kernel
theorem okl_1 : (((mT m_Law_law).drop 40).take 40).all (gOkQ m_Law_law) = true := by decide +kernel
theorem okl_2 : (((mT m_Law_law).drop 80).take 40).all (gOkQ m_Law_law) = true := by decide +kernel
theorem okl_3 : (((mT m_Law_law).drop 120).take 40).all (gOkQ m_Law_law) = true := by decide +kernel
theorem okl_4 : (((mT m_Law_law).drop 160).take 40).all (gOkQ m_Law_law) = true := by decide +kernel
theorem okl_5 : (((mT m_Law_law).drop 200).take 40).all (gOkQ m_Law_law) = true := by decide +kernel
theorem okl_6 : (((mT m_Law_law).drop 240).take 40).all (gOkQ m_Law_law) = true := by decide +kernel
theorem okl_7 : (((mT m_Law_law).drop 280).take 40).all (gOkQ m_Law_law) = true := by decide +kernel
theorem okl_8 : (((mT m_Law_law).drop 320).take 40).all (gOkQ m_Law_law) = true := by decide +kernel
theorem okl_9 : (((mT m_Law_law).drop 360).take 40).all (gOkQ m_Law_law) = true := by decide +kernel
theorem okl_10 : (((mT m_Law_law).drop 400).take 40).all (gOkQ m_Law_law) = true := by decide +kernel
theorem okl_11 : (((mT m_Law_law).drop 440).take 40).all (gOkQ m_Law_law) = true := by decide +kernel
theorem okl_12 : (((mT m_Law_law).drop 480).take 40).all (gOkQ m_Law_law) = true := by decide +kernel
theorem okl_13 : (((mT m_Law_law).drop 520).take 40).all (gOkQ m_Law_law) = true := by decide +kernel
theorem okl_14 : (((mT m_Law_law).drop 560).take 40).all (gOkQ m_Law_law) = true := by decide +kernel
theorem okl_15 : (((mT m_Law_law).drop 600).take 40).all (gOkQ m_Law_law) = true := by decide +kernel
theorem okl_16 : ((mT m_Law_law).drop 640).all (gOkQ m_Law_law) = true := by decide +kernel
theorem ok_Law_law : gOk m_Law_law := fun q hq => List.all_eq_true.mp (show ((mT m_Law_law).drop 0).all (gOkQ m_Law_law) = true from (all_td 40 okl_0 (by rw [List.drop_drop]; exact (all_td 40 okl_1 (by rw [List.drop_drop]; exact (all_td 40 okl_2 (by rw [List.drop_drop]; exact (all_td 40 okl_3 (by rw [List.drop_drop]; exact (all_td 40 okl_4 (by rw [List.drop_drop]; exact (all_td 40 okl_5 (by rw [List.drop_drop]; exact (all_td 40 okl_6 (by rw [List.drop_drop]; exact (all_td 40 okl_7 (by rw [List.drop_drop]; exact (all_td 40 okl_8 (by rw [List.drop_drop]; exact (all_td 40 okl_9 (by rw [List.drop_drop]; exact (all_td 40 okl_10 (by rw [List.drop_drop]; exact (all_td 40 okl_11 (by rw [List.drop_drop]; exact (all_td 40 okl_12 (by rw [List.drop_drop]; exact (all_td 40 okl_13 (by rw [List.drop_drop]; exact (all_td 40 okl_14 (by rw [List.drop_drop]; exact (all_td 40 okl_15 (by rw [List.drop_drop]; exact okl_16))))))))))))))))))))))))))))))))) q hq
theorem okX_put : gOkX m_Law_law 68 118 7 = true := by decide +kernel
theorem okX_spread : gOkX m_Law_law 76 119 7 = true := by decide +kernel
theorem okX_punch : gOkX m_Law_law 80 120 5 = true := by decide +kernel
theorem okX_strip : gOkX m_Law_law 84 121 6 = true := by decide +kernel
theorem okX_write : gOkX m_Law_law 88 122 5 = true := by decide +kernel
theorem okX_look : gOkX m_Law_law 91 123 4 = true := by decide +kernel
theorem okX_written : gOkX m_Law_law 95 124 4 = true := by decide +kernel
theorem okX_reach : gOkX m_Law_law 98 125 4 = true := by decide +kernel
theorem okX_count : gOkX m_Law_law 101 126 4 = true := by decide +kernel
theorem okX_rootByte : gOkX m_Law_law 108 127 4 = true := by decide +kernel
theorem okX_nodeByte : gOkX m_Law_law 111 128 4 = true := by decide +kernel
section
variable {G : gG} {N : Option Nat} {h : gH}
def scr (G : gG) (i : Int) : Int := (gxs G i.toNat).toInt
theorem scr_r (G : gG) (i : Int) : -2147483648 ≤ scr G i ∧ scr G i ≤ 2147483647 := by
  unfold scr
  have h1 := Int32.le_toInt (gxs G i.toNat)
  have h2 := Int32.toInt_lt (gxs G i.toNat)
  constructor <;> omega
def cel (G : gG) (k : Int) : Int := if k < gL G then scr G k else 0
theorem cel_r (G : gG) (i : Int) : -2147483648 ≤ cel G i ∧ cel G i ≤ 2147483647 := by
  unfold cel
  have := scr_r G i
  split <;> omega
theorem L_cell {k : Int} (hk : 0 ≤ k ∧ k ≤ 2147483647) (hL : gL G ≤ 2147483647) : Rd G m_Law_cell [vR 0, vI k] N h (some (vI (cel G k))) N h := by
  refine Rn.of rfl rfl rfl ?_
  have hM := ok_Law_cell
  repeat (first | refine go_pure hM rfl ?_ | (refine go_get (fs := ?_) (v := ?_) hM rfl ?_ ?_ ?_; rotate_left 2; assumption; rfl) | refine go_ldc hM rfl ?_)
  refine go_slen hM rfl ?_
  refine go_icmp_ge hM rfl (by omega) (by omega) (fun hc => ?_) (fun hc => ?_)
  · repeat (first | refine go_pure hM rfl ?_ | (refine go_get (fs := ?_) (v := ?_) hM rfl ?_ ?_ ?_; rotate_left 2; assumption; rfl) | refine go_ldc hM rfl ?_)
    refine go_iret hM rfl rfl ⟨?_, rfl, rfl⟩
    unfold cel
    rw [if_neg (by omega)]
  · repeat (first | refine go_pure hM rfl ?_ | (refine go_get (fs := ?_) (v := ?_) hM rfl ?_ ?_ ?_; rotate_left 2; assumption; rfl) | refine go_ldc hM rfl ?_)
    refine go_sld hM rfl (by omega) (by omega) hL ?_
    repeat (first | refine go_pure hM rfl ?_ | (refine go_get (fs := ?_) (v := ?_) hM rfl ?_ ?_ ?_; rotate_left 2; assumption; rfl) | refine go_ldc hM rfl ?_)
    refine go_iret hM rfl rfl ⟨?_, rfl, rfl⟩
    unfold cel
    rw [if_pos (by omega)]
    rfl
theorem out_hr {R : rA} {h : gH} {fo : Nat → Int64} {c r : Int} : outH (hrx R h) fo c r = hrx R (outH h fo c r) := by
  unfold outH
  by_cases e : c = 0
  · rw [if_pos e, if_pos e]
    funext a
    by_cases e1 : a = 556
    · subst e1
      rw [gU_s]
      unfold hrx
      rw [if_neg (by omega), if_neg (by omega), gU_s]
    · rw [gU_n e1]
      unfold hrx
      rw [gU_n e1]
  · rw [if_neg e, if_neg e]
theorem out_556 {h : gH} {fo : Nat → Int64} {c r : Int} (ho : h 556 = some (eO fo)) : outH h fo c r 556 = some (eO (if c = 0 then gF fo 0 (Int32.ofInt r).toInt64 else fo)) := by
  unfold outH
  by_cases e : c = 0
  · rw [if_pos e, if_pos e, gU_s]
  · rw [if_neg e, if_neg e, ho]
theorem hr_556 {R : rA} {h : gH} {fo : Nat → Int64} (ho : h 556 = some (eO fo)) : hrx R h 556 = some (eO fo) := by
  unfold hrx
  rw [if_neg (by omega), if_neg (by omega), ho]
theorem lg_self (x : Int64) : (lg_cmp x x).toInt = 0 := by
  unfold lg_cmp
  simp
end
