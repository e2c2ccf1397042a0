/-! Node: search, new entries, entries that go, bytes -/
/-- the last of the first n entries that begins at a block or before it -/
def gLu (f : Nat → Int) (b : Int) : Nat → Int
  | 0 => -1
  | n + 1 => if f (n * 3) ≤ b then (n : Int) else gLu f b n
theorem gLu_eq {f : Nat → Int} {b : Int} (lo : Nat) (h1 : ∀ i, i < lo → f (i * 3) ≤ b) : ∀ n, lo ≤ n → (∀ i, lo ≤ i → i < n → b < f (i * 3)) → gLu f b n = (lo : Int) - 1 := by
  intro n
  induction n with
  | zero =>
    intro h2 _
    have : lo = 0 := by omega
    subst this
    rfl
  | succ n ih =>
    intro h2 h3
    by_cases h4 : lo = n + 1
    · subst h4
      have := h1 n (by omega)
      simp only [gLu, if_pos this]
      omega
    · have := h3 n (by omega) (by omega)
      simp only [gLu, if_neg (by omega : ¬ f (n * 3) ≤ b)]
      exact ih (by omega) (fun i h5 h6 => h3 i h5 (by omega))
section
variable {G : gG} {N : Option Nat} {h : gH} {o w nw : Nat} {num room tk dep ent : Int} {f : Nat → Int}
set_option maxHeartbeats 1000000 in
theorem c_lastUpTo {b : Int} (hN : h o = some (gNd num room tk dep ent w)) (hA : h w = some (gIA nw f)) (hnw : (nw : Int) = room * 3) (hro : 4 ≤ room ∧ room ≤ 84) (hen : 0 ≤ ent ∧ ent ≤ room) (rb : (-2147483648 ≤ b ∧ b ≤ 2147483647)) (rf : ∀ i, -2147483648 ≤ f i ∧ f i ≤ 2147483647) (hs : ∀ i j : Nat, i ≤ j → (j : Int) < ent → f (i * 3) ≤ f (j * 3)) : Rd G m_Node_lastUpTo [vR o, vI b] N h (some (vI (gLu f b ent.toNat))) N h := by
  refine Rn.of rfl rfl rfl ?_
  have hM := ok_Node_lastUpTo
  have loop : ∀ (n lo hi : Nat) (x : Option gV), hi - lo < n → lo ≤ hi → (hi : Int) ≤ ent → (∀ i, i < lo → f (i * 3) ≤ b) → (∀ i, hi ≤ i → (i : Int) < ent → b < f (i * 3)) →
      Go G m_Node_lastUpTo (gFin G (gEq (some (vI (gLu f b ent.toNat))) N h) gNo) 7 [some (vR o), some (vI b), some (vI lo), some (vI hi), x] [] N h 0 0 := by
    intro n
    induction n with
    | zero => intro lo hi x h1; omega
    | succ n ih =>
      intro lo hi x h1 h2 h3 h4 h5
      repeat (first | refine go_pure hM rfl ?_ | (refine go_get (fs := ?_) (v := ?_) hM rfl ?_ ?_ ?_; rotate_left 2; assumption; rfl) | refine go_ldc hM rfl ?_)
      refine go_icmp_ge hM rfl (by omega) (by omega) (fun hc => ?_) (fun hc => ?_)
      · repeat (first | refine go_pure hM rfl ?_ | (refine go_get (fs := ?_) (v := ?_) hM rfl ?_ ?_ ?_; rotate_left 2; assumption; rfl) | refine go_ldc hM rfl ?_)
        refine go_iret hM rfl rfl ⟨?_, rfl, rfl⟩
        rw [gLu_eq lo h4 ent.toNat (by omega) (fun i h6 h7 => h5 i (by omega) (by omega))]
      · repeat (first | refine go_pure hM rfl ?_ | (refine go_get (fs := ?_) (v := ?_) hM rfl ?_ ?_ ?_; rotate_left 2; assumption; rfl) | refine go_ldc hM rfl ?_)
        refine go_idiv hM rfl (by omega) (by omega) ?_
        obtain ⟨md, hmd⟩ : ∃ md : Nat, ((lo : Int) + hi) / 2 = md := ⟨(((lo : Int) + hi) / 2).toNat, by omega⟩
        rw [hmd]
        repeat (first | refine go_pure hM rfl ?_ | (refine go_get (fs := ?_) (v := ?_) hM rfl ?_ ?_ ?_; rotate_left 2; assumption; rfl) | refine go_ldc hM rfl ?_)
        refine go_cV hM rfl rfl rfl hN rfl (c_firstAt hN hA hnw hro hen (by omega)) rfl ?_
        repeat (first | refine go_pure hM rfl ?_ | (refine go_get (fs := ?_) (v := ?_) hM rfl ?_ ?_ ?_; rotate_left 2; assumption; rfl) | refine go_ldc hM rfl ?_)
        have e9 : gWd f ent md 0 = f (md * 3) := by
          rw [gWd_in (by omega)]
          congr 1
        rw [e9]
        refine go_icmp_gt hM rfl (rf _) rb (fun hc => ?_) (fun hc => ?_)
        · repeat (first | exact ih lo md _ (by omega) (by omega) (by omega) h4 (fun i h6 h7 => Int.lt_of_lt_of_le hc (hs md i h6 h7)) | refine go_pure hM rfl ?_ | (refine go_get (fs := ?_) (v := ?_) hM rfl ?_ ?_ ?_; rotate_left 2; assumption; rfl) | refine go_ldc hM rfl ?_)
        · repeat (first | exact ih (md + 1) hi _ (by omega) (by omega) (by omega) (fun i h6 => Int.le_trans (hs i md (by omega) (by omega)) (by omega)) h5 | refine go_pure hM rfl ?_ | (refine go_get (fs := ?_) (v := ?_) hM rfl ?_ ?_ ?_; rotate_left 2; assumption; rfl) | refine go_ldc hM rfl ?_)
  obtain ⟨en, hen9⟩ : ∃ en : Nat, ent = en := ⟨ent.toNat, by omega⟩
  subst hen9
  repeat (first | exact loop (en + 1) 0 en _ (by omega) (by omega) (by omega) (fun i h6 => absurd h6 (by omega)) (fun i h6 h7 => absurd h6 (by omega)) | refine go_pure hM rfl ?_ | (refine go_get (fs := ?_) (v := ?_) hM rfl ?_ ?_ ?_; rotate_left 2; assumption; rfl) | refine go_ldc hM rfl ?_)
end
