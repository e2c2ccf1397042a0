/-! the reference: enter, its first loops -/
section
variable {T : Nat → Int}
theorem cnF_take {b : Nat} (h1 : 1 ≤ b) (h2 : T b = 0) : ∀ n, (n < b → cnF (gF T b 1) n = cnF T n) ∧ (b ≤ n → cnF (gF T b 1) n = cnF T n - 1) := by
  intro n
  induction n with
  | zero => exact ⟨fun _ => rfl, fun h => absurd h (by omega)⟩
  | succ n ih =>
    have e : cnF (gF T b 1) (n + 1) = cnF (gF T b 1) n + (if gF T b 1 (n + 1) = 0 then 1 else 0) := rfl
    have e2 : cnF T (n + 1) = cnF T n + (if T (n + 1) = 0 then 1 else 0) := rfl
    refine ⟨fun h => ?_, fun h => ?_⟩
    · rw [e, e2, ih.1 (by omega), gF_n (by omega)]
    · by_cases e9 : n + 1 = b
      · rw [e, e2, ih.1 (by omega), e9, gF_s, h2, if_neg (by decide), if_pos rfl]
        omega
      · rw [e, e2, ih.2 (by omega), gF_n e9]
        omega
theorem tk_ok (h0 : T 0 = 1) (h01 : ∀ b, 1 ≤ b → b < 256 → T b = 0 ∨ T b = 1) : ∀ n : Nat, (n : Int) ≤ cnF T 255 → (tkT T n 0 = 1 ∧ (∀ b, 1 ≤ b → b < 256 → tkT T n b = 0 ∨ tkT T n b = 1) ∧ cnF (tkT T n) 255 = cnF T 255 - n) ∧ ((n : Int) + 1 ≤ cnF T 255 → 1 ≤ nbT T n ∧ nbT T n < 256 ∧ tkT T n (nbT T n) = 0 ∧ ∀ j, j < nbT T n → tkT T n j = 1) := by
  have lst : ∀ U : Nat → Int, U 0 = 1 → (∀ b, 1 ≤ b → b < 256 → U b = 0 ∨ U b = 1) → 1 ≤ cnF U 255 → 1 ≤ lf U ∧ lf U < 256 ∧ U (lf U) = 0 ∧ ∀ j, j < lf U → U j = 1 := by
    intro U u0 u1 u2
    rcases lfF_spec (T := U) 255 1 with ⟨a1, a2, a3, a4⟩ | a
    · refine ⟨a1, by unfold lf; omega, a3, fun j hj => ?_⟩
      by_cases e : j = 0
      · rw [e]
        exact u0
      · have h9 := a4 j (by omega) hj
        have hj : j < lfF U 255 1 := hj
        rcases u1 j (by omega) (by omega) with z | z
        · exact absurd z h9
        · exact z
    · rw [cnF_0 255 a] at u2
      omega
  intro n
  induction n with
  | zero =>
    intro _
    refine ⟨⟨h0, h01, by show cnF T 255 = _; omega⟩, fun h => lst T h0 h01 (by omega)⟩
  | succ n ih =>
    intro hn
    obtain ⟨⟨a1, a2, a3⟩, a4⟩ := ih (by omega)
    obtain ⟨b1, b2, b3, b4⟩ := a4 (by omega)
    have e : tkT T (n + 1) = gF (tkT T n) (nbT T n) 1 := rfl
    have c1 : tkT T (n + 1) 0 = 1 := by
      rw [e, gF_n (by omega)]
      exact a1
    have c2 : ∀ b, 1 ≤ b → b < 256 → tkT T (n + 1) b = 0 ∨ tkT T (n + 1) b = 1 := by
      intro b h1 h2
      rw [e]
      by_cases e9 : b = nbT T n
      · rw [e9, gF_s]
        exact Or.inr rfl
      · rw [gF_n e9]
        exact a2 b h1 h2
    have c3 : cnF (tkT T (n + 1)) 255 = cnF T 255 - ((n + 1 : Nat) : Int) := by
      rw [e, (cnF_take b1 b3 255).2 (by omega), a3]
      omega
    exact ⟨⟨c1, c2, c3⟩, fun h => lst _ c1 c2 (by rw [c3]; omega)⟩
end
/-- fresh blocks -/
def frN (R : rA) (nb : Nat → Nat) (n : Nat) : Nat → Int := fun l => if l < n then (nb l : Int) else zF R l
theorem frN_s {R : rA} {nb : Nat → Nat} {n : Nat} : gF (frN R nb n) n (nb n : Int) = frN R nb (n + 1) := by
  funext l
  unfold frN
  by_cases e : l = n
  · rw [e, gF_s, if_pos (by omega)]
  · rw [gF_n e]
    by_cases e2 : l < n
    · rw [if_pos e2, if_pos (by omega)]
    · rw [if_neg e2, if_neg (by omega)]
theorem frN_0 {R : rA} {nb : Nat → Nat} : frN R nb 0 = zF R := by
  funext l
  exact if_neg (by omega)
def sTF (R : rA) (a b : Nat → Int) : rA := sR (sR R 10 a) 13 b
section
variable {R : rA} {a b f : Nat → Int}
theorem sTF_10 : (sTF R a b).2.2 10 = a := (sR_n (by omega)).trans sR_s
theorem sTF_z10 : zT (sTF R a b) = a := sTF_10
theorem sTF_13 : (sTF R a b).2.2 13 = b := sR_s
theorem sTF_o {k : Nat} (h1 : k ≠ 10) (h2 : k ≠ 13) : (sTF R a b).2.2 k = R.2.2 k := (sR_n h2).trans (sR_n h1)
theorem sTF_s10 : sR (sTF R a b) 10 f = sTF R f b := by
  unfold sTF
  rw [sR_sw (i := 13) (by omega), sR_uu]
theorem sTF_s13 : sR (sTF R a b) 13 f = sTF R a f := sR_uu
theorem sTF_0 : sTF R (zT R) (zF R) = R := by
  show (R.1, R.2.1, gF (gF R.2.2 10 (R.2.2 10)) 13 (R.2.2 13)) = R
  rw [gF_same, gF_same]
end
section
variable {G : gG} {N : Option Nat} {h : gH} {R : rA} {t d a m : Nat} {i : Int} {T : Nat → Int} {y5 y6 y7 : Option gV}
/-- the loop that takes a block for each full node: a of them -/
theorem en_take {Q9 : Option gV → Option Nat → gH → Prop} {X : String → gH → Prop} (hT : zT R = T) (h0 : T 0 = 1) (h01 : ∀ b, 1 ≤ b → b < 256 → T b = 0 ∨ T b = 1) (hle : (a : Int) ≤ cnF T 255) (hd : d ≤ 5) (had : a ≤ d) (hm : 5 ≤ m ∧ m ≤ 84) (hmo : R.2.1 = (m : Int)) (hy : ∀ l, l < d → ∃ w c : Nat, zY R l = (w : Int) ∧ w < 1536 ∧ zE R w = (c : Int) ∧ c ≤ 100000 ∧ (l < a → c = m) ∧ (l = a → c ≠ m))
    (kk : Go G m_Mod_enter (gFin G Q9 X) 110 [some (vR 541), some (vI t), some (vI i), some (vI d), some (vI a), y5, y6, y7] [] N (hrx (sTF R (tkT T a) (frN R (nbT T) a)) h) 0 0) :
    ∀ (q n : Nat) (j : Int), q + n = a → j = n → Go G m_Mod_enter (gFin G Q9 X) 68 [some (vR 541), some (vI t), some (vI i), some (vI d), some (vI j), y5, y6, y7] [] N (hrx (sTF R (tkT T n) (frN R (nbT T) n)) h) 0 0 := by
  have hM := ok_Mod_enter
  intro q
  induction q with
  | zero =>
    intro n j e1 e2
    subst e2
    have e1 : n = a := by omega
    subst e1
    repeat (first | refine go_pure hM rfl ?_ | refine go_get hM rfl hr_o rfl ?_ | refine go_ldc hM rfl ?_)
    refine go_icmp_ge hM rfl (by omega) (by omega) (fun _ => kk) (fun h9 => ?_)
    obtain ⟨w, c, c1, c2, c3, c4, c5, c6⟩ := hy n (by omega)
    have c1 : R.2.2 11 n = (w : Int) := c1
    have c3 : R.2.2 8 w = (c : Int) := c3
    repeat (first | refine go_pure hM rfl ?_ | refine go_get hM rfl hr_o rfl ?_ | refine go_ldc hM rfl ?_)
    refine go_iald hM rfl hr_Y (by omega) (by omega) (by omega) ?_
    rw [show ((n : Nat) : Int).toNat = n by omega, sTF_o (by omega) (by omega), c1]
    refine go_iald hM rfl hr_E (by omega) (by omega) (by omega) ?_
    rw [show ((w : Nat) : Int).toNat = w by omega, sTF_o (by omega) (by omega), c3]
    have mo : (sTF R (tkT T n) (frN R (nbT T) n)).2.1 = (m : Int) := hmo
    repeat (first | refine go_pure hM rfl ?_ | refine go_get hM rfl hr_o rfl ?_ | refine go_ldc hM rfl ?_)
    rw [mo]
    refine go_icmp_ne hM rfl (by omega) (by omega) (fun _ => kk) (fun h8 => ?_)
    exact absurd (show c = m by omega) (c6 rfl)
  | succ q ih =>
    intro n j e1 e2
    subst e2
    obtain ⟨w, c, c1, c2, c3, c4, c5, c6⟩ := hy n (by omega)
    have c5 := c5 (by omega)
    have c1 : R.2.2 11 n = (w : Int) := c1
    have c3 : R.2.2 8 w = (c : Int) := c3
    obtain ⟨b1, b2, b3, b4⟩ := (tk_ok h0 h01 n (by omega)).2 (by omega)
    have tb := m_takeBlock (G := G) (N := N) (h := h) (R := sTF R (tkT T n) (frN R (nbT T) n)) (b := nbT T n) b2 (by rw [sTF_z10]; exact b3) (by rw [sTF_z10]; exact b4)
    rw [sTF_z10, sTF_s10] at tb
    have nx := ih (n + 1) ((n : Int) + 1) (by omega) (by omega)
    repeat (first | refine go_pure hM rfl ?_ | refine go_get hM rfl hr_o rfl ?_ | refine go_ldc hM rfl ?_)
    refine go_icmp_ge hM rfl (by omega) (by omega) (fun h9 => absurd h9 (by omega)) (fun h9 => ?_)
    repeat (first | refine go_pure hM rfl ?_ | refine go_get hM rfl hr_o rfl ?_ | refine go_ldc hM rfl ?_)
    refine go_iald hM rfl hr_Y (by omega) (by omega) (by omega) ?_
    rw [show ((n : Nat) : Int).toNat = n by omega, sTF_o (by omega) (by omega), c1]
    refine go_iald hM rfl hr_E (by omega) (by omega) (by omega) ?_
    rw [show ((w : Nat) : Int).toNat = w by omega, sTF_o (by omega) (by omega), c3]
    have mo : (sTF R (tkT T n) (frN R (nbT T) n)).2.1 = (m : Int) := hmo
    repeat (first | refine go_pure hM rfl ?_ | refine go_get hM rfl hr_o rfl ?_ | refine go_ldc hM rfl ?_)
    rw [mo]
    refine go_icmp_ne hM rfl (by omega) (by omega) (fun h8 => absurd (show (c : Int) = m by omega) h8) (fun _ => ?_)
    repeat (first | refine go_pure hM rfl ?_ | refine go_get hM rfl hr_o rfl ?_ | refine go_ldc hM rfl ?_)
    refine go_cV hM rfl rfl rfl hr_o rfl tb rfl ?_
    refine go_iast hM rfl hr_F (by omega) (by omega) (by omega) ?_
    rw [show ((n : Nat) : Int).toNat = n by omega, ur_F, sTF_s13, sTF_13, frN_s]
    repeat (first | exact nx | refine go_pure hM rfl ?_ | refine go_get hM rfl hr_o rfl ?_ | refine go_ldc hM rfl ?_)
end
