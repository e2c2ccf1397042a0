/-! rules with branches and cells -/
theorem gI_0 : (0 : Int32) = Int32.ofInt 0 := by decide
def gGetF : List gV → Nat → Option gV
  | [], _ => none
  | x :: _, 0 => some x
  | _ :: t, i + 1 => gGetF t i
theorem gGetF_spec : ∀ (fs : List gV) (k : Nat) (v : gV), gGetF fs k = some v → fs[k]? = some v := by
  intro fs
  induction fs with
  | nil => intro k v h; simp [gGetF] at h
  | cons x t ih =>
    intro k v h
    cases k with
    | zero => simp [gGetF] at h; subst h; simp
    | succ k => simp [gGetF] at h; simpa using ih k v h
theorem ga_pos {G : gG} {i : Nat} (h : 0 < i) : ga G i = gZ G + i := by
  unfold ga
  rw [if_neg (by omega)]
theorem gRp.at {G : gG} {h : gH} {H : Heap} (hR : gRp G h H) {a : Nat} {e : gE} (hh : h a = some e) : ga G a = gZ G + a ∧ va_at (gD G) gCl (gZ G + a, gzE G e) H := ⟨ga_pos (hR a e hh).1, (hR a e hh).2⟩
theorem gP1 {D : va_G} {q : Nat × va_E} {H : Heap} (h : va_at D gCl q H) : va_P D gCl [q] H := by
  intro k q' hk
  cases k with
  | zero => simp at hk; subst hk; exact h
  | succ k => simp at hk
theorem gK1 {G : gG} {s : State} (hE : gEnv G s) {k : Nat} {ty : FieldType} (hk : gTy[k]? = some ty) : va_K (gD G) gCl [(gdA G k, ty)] s := by
  refine ⟨hE.1.1, fun i q hi => ?_⟩
  cases i with
  | zero => simp at hi; subst hi; exact hE.2.1 k ty hk
  | succ i => simp at hi
/-- a cell is another one then -/
theorem gRp.upd {G : gG} {h : gH} {H H1 : Heap} (hR : gRp G h H) {a : Nat} {e0 e : gE} (hh : h a = some e0) (he : va_at (gD G) gCl (gZ G + a, gzE G e) H1) (oq : ∀ q : Nat, q ≠ gZ G + a → H1[q]? = H[q]?) : gRp G (gU h a e) H1 := by
  intro i e9 hi
  unfold gU at hi
  by_cases hia : i = a
  · subst hia
    simp at hi
    subst hi
    exact ⟨(hR i e0 hh).1, he⟩
  · rw [if_neg hia] at hi
    exact ⟨(hR i e9 hi).1, (hR i e9 hi).2.kept (oq _ (by show gZ G + i ≠ gZ G + a; omega))⟩
/-- a new cell -/
theorem gRp.push {G : gG} {h : gH} {H H1 : Heap} {n : Nat} (hR : gRp G h H) {e : gE} (hn : 0 < n) (hz : H.size = gZ G + n) (he : va_at (gD G) gCl (gZ G + n, gzE G e) H1) (oq : ∀ q : Nat, q < H.size → H1[q]? = H[q]?) : gRp G (gU h n e) H1 := by
  intro i e9 hi
  unfold gU at hi
  by_cases hia : i = n
  · subst hia
    simp at hi
    subst hi
    exact ⟨hn, he⟩
  · rw [if_neg hia] at hi
    exact ⟨(hR i e9 hi).1, (hR i e9 hi).2.kept (oq _ (hR i e9 hi).2.lt)⟩
theorem gS1 {A : Nat → Prop} {H0 H H1 : Heap} {locs : List Loc} {a : Nat} (h : va_S A H0 H locs) (z : H1.size = H.size) (oq : ∀ q : Nat, q ≠ a → H1[q]? = H[q]?) (ha : A a) (k : Nat) : va_S A H0 H1 (locs ++ [⟨a, k⟩]) := h.put z oq ha
theorem gA_in {G : gG} {a : Nat} (h : 0 < a) : gA G (gZ G + a) := by
  show gZ G < gZ G + a
  omega
section
variable {G : gG} {M : gM} {F : gK → State → Prop} {pc : Nat} {lv lv' : List (Option gV)} {st st' : List gV} {N : Option Nat} {h : gH} {c s : Nat} {pc0 nx k j : Nat} {z : Int}
theorem go_if_eq {off : Int} {a : Int} (hM : gOk M) (hi : gAt (mT M) pc = some (pc0, .ifCond .eq off, nx, z, k, j)) (hr1 : -2147483648 ≤ a ∧ a ≤ 2147483647) (kt : a = 0 → Go G M F k lv st N h c s) (kf : ¬ a = 0 → Go G M F nx lv st N h c s) : Go G M F pc lv (vI a :: st) N h c s := by
  intro κ H locs ls cells slots hC hH hl hr
  obtain ⟨p, e, R, s0, m, args, below, meth, cd⟩ := κ
  obtain ⟨hd, rfl, ho⟩ := gdec' (len := 3) hM hi rfl (by decide)
  obtain ⟨-, hx, hb, hrt, hml, hown, hts, hlk, hnm, hfr, hlo, het, hE⟩ := id hC
  have ho : (pc : Int) + off = k := by simpa [gOkI] using ho
  have hI := (gI_inj (b := 0) hr1 (by omega))
  rw [← gI_0] at hI
  exact lv_if_eq hx hb hd ho (fun hc => kt (hI.mp hc) _ H locs ls cells slots hC hH hl hr) (fun hc => kf (fun h9 => hc (hI.mpr h9)) _ H locs ls cells slots hC hH hl hr)
theorem go_if_ne {off : Int} {a : Int} (hM : gOk M) (hi : gAt (mT M) pc = some (pc0, .ifCond .ne off, nx, z, k, j)) (hr1 : -2147483648 ≤ a ∧ a ≤ 2147483647) (kt : ¬ a = 0 → Go G M F k lv st N h c s) (kf : a = 0 → Go G M F nx lv st N h c s) : Go G M F pc lv (vI a :: st) N h c s := by
  intro κ H locs ls cells slots hC hH hl hr
  obtain ⟨p, e, R, s0, m, args, below, meth, cd⟩ := κ
  obtain ⟨hd, rfl, ho⟩ := gdec' (len := 3) hM hi rfl (by decide)
  obtain ⟨-, hx, hb, hrt, hml, hown, hts, hlk, hnm, hfr, hlo, het, hE⟩ := id hC
  have ho : (pc : Int) + off = k := by simpa [gOkI] using ho
  have hI := (gI_inj (b := 0) hr1 (by omega))
  rw [← gI_0] at hI
  exact lv_if_ne hx hb hd ho (fun hc => kt (fun h9 => hc (hI.mpr h9)) _ H locs ls cells slots hC hH hl hr) (fun hc => kf (hI.mp hc) _ H locs ls cells slots hC hH hl hr)
theorem go_if_lt {off : Int} {a : Int} (hM : gOk M) (hi : gAt (mT M) pc = some (pc0, .ifCond .lt off, nx, z, k, j)) (hr1 : -2147483648 ≤ a ∧ a ≤ 2147483647) (kt : a < 0 → Go G M F k lv st N h c s) (kf : ¬ a < 0 → Go G M F nx lv st N h c s) : Go G M F pc lv (vI a :: st) N h c s := by
  intro κ H locs ls cells slots hC hH hl hr
  obtain ⟨p, e, R, s0, m, args, below, meth, cd⟩ := κ
  obtain ⟨hd, rfl, ho⟩ := gdec' (len := 3) hM hi rfl (by decide)
  obtain ⟨-, hx, hb, hrt, hml, hown, hts, hlk, hnm, hfr, hlo, het, hE⟩ := id hC
  have ho : (pc : Int) + off = k := by simpa [gOkI] using ho
  have hI := (gI_lt (b := 0) hr1 (by omega))
  rw [← gI_0] at hI
  exact lv_if_lt hx hb hd ho (fun hc => kt (hI.mp hc) _ H locs ls cells slots hC hH hl hr) (fun hc => kf (fun h9 => hc (hI.mpr h9)) _ H locs ls cells slots hC hH hl hr)
theorem go_if_ge {off : Int} {a : Int} (hM : gOk M) (hi : gAt (mT M) pc = some (pc0, .ifCond .ge off, nx, z, k, j)) (hr1 : -2147483648 ≤ a ∧ a ≤ 2147483647) (kt : 0 ≤ a → Go G M F k lv st N h c s) (kf : ¬ 0 ≤ a → Go G M F nx lv st N h c s) : Go G M F pc lv (vI a :: st) N h c s := by
  intro κ H locs ls cells slots hC hH hl hr
  obtain ⟨p, e, R, s0, m, args, below, meth, cd⟩ := κ
  obtain ⟨hd, rfl, ho⟩ := gdec' (len := 3) hM hi rfl (by decide)
  obtain ⟨-, hx, hb, hrt, hml, hown, hts, hlk, hnm, hfr, hlo, het, hE⟩ := id hC
  have ho : (pc : Int) + off = k := by simpa [gOkI] using ho
  have hI := (gI_le (a := 0) (by omega) hr1)
  rw [← gI_0] at hI
  exact lv_if_ge hx hb hd ho (fun hc => kt (hI.mp hc) _ H locs ls cells slots hC hH hl hr) (fun hc => kf (fun h9 => hc (hI.mpr h9)) _ H locs ls cells slots hC hH hl hr)
theorem go_if_gt {off : Int} {a : Int} (hM : gOk M) (hi : gAt (mT M) pc = some (pc0, .ifCond .gt off, nx, z, k, j)) (hr1 : -2147483648 ≤ a ∧ a ≤ 2147483647) (kt : 0 < a → Go G M F k lv st N h c s) (kf : ¬ 0 < a → Go G M F nx lv st N h c s) : Go G M F pc lv (vI a :: st) N h c s := by
  intro κ H locs ls cells slots hC hH hl hr
  obtain ⟨p, e, R, s0, m, args, below, meth, cd⟩ := κ
  obtain ⟨hd, rfl, ho⟩ := gdec' (len := 3) hM hi rfl (by decide)
  obtain ⟨-, hx, hb, hrt, hml, hown, hts, hlk, hnm, hfr, hlo, het, hE⟩ := id hC
  have ho : (pc : Int) + off = k := by simpa [gOkI] using ho
  have hI := (gI_lt (a := 0) (by omega) hr1)
  rw [← gI_0] at hI
  exact lv_if_gt hx hb hd ho (fun hc => kt (hI.mp hc) _ H locs ls cells slots hC hH hl hr) (fun hc => kf (fun h9 => hc (hI.mpr h9)) _ H locs ls cells slots hC hH hl hr)
theorem go_if_le {off : Int} {a : Int} (hM : gOk M) (hi : gAt (mT M) pc = some (pc0, .ifCond .le off, nx, z, k, j)) (hr1 : -2147483648 ≤ a ∧ a ≤ 2147483647) (kt : a ≤ 0 → Go G M F k lv st N h c s) (kf : ¬ a ≤ 0 → Go G M F nx lv st N h c s) : Go G M F pc lv (vI a :: st) N h c s := by
  intro κ H locs ls cells slots hC hH hl hr
  obtain ⟨p, e, R, s0, m, args, below, meth, cd⟩ := κ
  obtain ⟨hd, rfl, ho⟩ := gdec' (len := 3) hM hi rfl (by decide)
  obtain ⟨-, hx, hb, hrt, hml, hown, hts, hlk, hnm, hfr, hlo, het, hE⟩ := id hC
  have ho : (pc : Int) + off = k := by simpa [gOkI] using ho
  have hI := (gI_le (b := 0) hr1 (by omega))
  rw [← gI_0] at hI
  exact lv_if_le hx hb hd ho (fun hc => kt (hI.mp hc) _ H locs ls cells slots hC hH hl hr) (fun hc => kf (fun h9 => hc (hI.mpr h9)) _ H locs ls cells slots hC hH hl hr)
theorem go_icmp_eq {off : Int} {a b : Int} (hM : gOk M) (hi : gAt (mT M) pc = some (pc0, .if_icmp .eq off, nx, z, k, j)) (hr1 : -2147483648 ≤ a ∧ a ≤ 2147483647) (hr2 : -2147483648 ≤ b ∧ b ≤ 2147483647) (kt : a = b → Go G M F k lv st N h c s) (kf : ¬ a = b → Go G M F nx lv st N h c s) : Go G M F pc lv (vI b :: vI a :: st) N h c s := by
  intro κ H locs ls cells slots hC hH hl hr
  obtain ⟨p, e, R, s0, m, args, below, meth, cd⟩ := κ
  obtain ⟨hd, rfl, ho⟩ := gdec' (len := 3) hM hi rfl (by decide)
  obtain ⟨-, hx, hb, hrt, hml, hown, hts, hlk, hnm, hfr, hlo, het, hE⟩ := id hC
  have ho : (pc : Int) + off = k := by simpa [gOkI] using ho
  have hI := (gI_inj hr1 hr2)
  exact lv_icmp_eq hx hb hd ho (fun hc => kt (hI.mp hc) _ H locs ls cells slots hC hH hl hr) (fun hc => kf (fun h9 => hc (hI.mpr h9)) _ H locs ls cells slots hC hH hl hr)
theorem go_icmp_ne {off : Int} {a b : Int} (hM : gOk M) (hi : gAt (mT M) pc = some (pc0, .if_icmp .ne off, nx, z, k, j)) (hr1 : -2147483648 ≤ a ∧ a ≤ 2147483647) (hr2 : -2147483648 ≤ b ∧ b ≤ 2147483647) (kt : ¬ a = b → Go G M F k lv st N h c s) (kf : a = b → Go G M F nx lv st N h c s) : Go G M F pc lv (vI b :: vI a :: st) N h c s := by
  intro κ H locs ls cells slots hC hH hl hr
  obtain ⟨p, e, R, s0, m, args, below, meth, cd⟩ := κ
  obtain ⟨hd, rfl, ho⟩ := gdec' (len := 3) hM hi rfl (by decide)
  obtain ⟨-, hx, hb, hrt, hml, hown, hts, hlk, hnm, hfr, hlo, het, hE⟩ := id hC
  have ho : (pc : Int) + off = k := by simpa [gOkI] using ho
  have hI := (gI_inj hr1 hr2)
  exact lv_icmp_ne hx hb hd ho (fun hc => kt (fun h9 => hc (hI.mpr h9)) _ H locs ls cells slots hC hH hl hr) (fun hc => kf (hI.mp hc) _ H locs ls cells slots hC hH hl hr)
theorem go_icmp_lt {off : Int} {a b : Int} (hM : gOk M) (hi : gAt (mT M) pc = some (pc0, .if_icmp .lt off, nx, z, k, j)) (hr1 : -2147483648 ≤ a ∧ a ≤ 2147483647) (hr2 : -2147483648 ≤ b ∧ b ≤ 2147483647) (kt : a < b → Go G M F k lv st N h c s) (kf : ¬ a < b → Go G M F nx lv st N h c s) : Go G M F pc lv (vI b :: vI a :: st) N h c s := by
  intro κ H locs ls cells slots hC hH hl hr
  obtain ⟨p, e, R, s0, m, args, below, meth, cd⟩ := κ
  obtain ⟨hd, rfl, ho⟩ := gdec' (len := 3) hM hi rfl (by decide)
  obtain ⟨-, hx, hb, hrt, hml, hown, hts, hlk, hnm, hfr, hlo, het, hE⟩ := id hC
  have ho : (pc : Int) + off = k := by simpa [gOkI] using ho
  have hI := (gI_lt hr1 hr2)
  exact lv_icmp_lt hx hb hd ho (fun hc => kt (hI.mp hc) _ H locs ls cells slots hC hH hl hr) (fun hc => kf (fun h9 => hc (hI.mpr h9)) _ H locs ls cells slots hC hH hl hr)
theorem go_icmp_ge {off : Int} {a b : Int} (hM : gOk M) (hi : gAt (mT M) pc = some (pc0, .if_icmp .ge off, nx, z, k, j)) (hr1 : -2147483648 ≤ a ∧ a ≤ 2147483647) (hr2 : -2147483648 ≤ b ∧ b ≤ 2147483647) (kt : b ≤ a → Go G M F k lv st N h c s) (kf : ¬ b ≤ a → Go G M F nx lv st N h c s) : Go G M F pc lv (vI b :: vI a :: st) N h c s := by
  intro κ H locs ls cells slots hC hH hl hr
  obtain ⟨p, e, R, s0, m, args, below, meth, cd⟩ := κ
  obtain ⟨hd, rfl, ho⟩ := gdec' (len := 3) hM hi rfl (by decide)
  obtain ⟨-, hx, hb, hrt, hml, hown, hts, hlk, hnm, hfr, hlo, het, hE⟩ := id hC
  have ho : (pc : Int) + off = k := by simpa [gOkI] using ho
  have hI := (gI_le hr2 hr1)
  exact lv_icmp_ge hx hb hd ho (fun hc => kt (hI.mp hc) _ H locs ls cells slots hC hH hl hr) (fun hc => kf (fun h9 => hc (hI.mpr h9)) _ H locs ls cells slots hC hH hl hr)
theorem go_icmp_gt {off : Int} {a b : Int} (hM : gOk M) (hi : gAt (mT M) pc = some (pc0, .if_icmp .gt off, nx, z, k, j)) (hr1 : -2147483648 ≤ a ∧ a ≤ 2147483647) (hr2 : -2147483648 ≤ b ∧ b ≤ 2147483647) (kt : b < a → Go G M F k lv st N h c s) (kf : ¬ b < a → Go G M F nx lv st N h c s) : Go G M F pc lv (vI b :: vI a :: st) N h c s := by
  intro κ H locs ls cells slots hC hH hl hr
  obtain ⟨p, e, R, s0, m, args, below, meth, cd⟩ := κ
  obtain ⟨hd, rfl, ho⟩ := gdec' (len := 3) hM hi rfl (by decide)
  obtain ⟨-, hx, hb, hrt, hml, hown, hts, hlk, hnm, hfr, hlo, het, hE⟩ := id hC
  have ho : (pc : Int) + off = k := by simpa [gOkI] using ho
  have hI := (gI_lt hr2 hr1)
  exact lv_icmp_gt hx hb hd ho (fun hc => kt (hI.mp hc) _ H locs ls cells slots hC hH hl hr) (fun hc => kf (fun h9 => hc (hI.mpr h9)) _ H locs ls cells slots hC hH hl hr)
theorem go_icmp_le {off : Int} {a b : Int} (hM : gOk M) (hi : gAt (mT M) pc = some (pc0, .if_icmp .le off, nx, z, k, j)) (hr1 : -2147483648 ≤ a ∧ a ≤ 2147483647) (hr2 : -2147483648 ≤ b ∧ b ≤ 2147483647) (kt : a ≤ b → Go G M F k lv st N h c s) (kf : ¬ a ≤ b → Go G M F nx lv st N h c s) : Go G M F pc lv (vI b :: vI a :: st) N h c s := by
  intro κ H locs ls cells slots hC hH hl hr
  obtain ⟨p, e, R, s0, m, args, below, meth, cd⟩ := κ
  obtain ⟨hd, rfl, ho⟩ := gdec' (len := 3) hM hi rfl (by decide)
  obtain ⟨-, hx, hb, hrt, hml, hown, hts, hlk, hnm, hfr, hlo, het, hE⟩ := id hC
  have ho : (pc : Int) + off = k := by simpa [gOkI] using ho
  have hI := (gI_le hr1 hr2)
  exact lv_icmp_le hx hb hd ho (fun hc => kt (hI.mp hc) _ H locs ls cells slots hC hH hl hr) (fun hc => kf (fun h9 => hc (hI.mpr h9)) _ H locs ls cells slots hC hH hl hr)
theorem go_ldc {idx : Nat} (hM : gOk M) (hi : gAt (mT M) pc = some (pc0, .ldc idx, nx, z, k, 0)) (kk : Go G M F nx lv (vI z :: st) N h c s) : Go G M F pc lv st N h c s := by
  intro κ H locs ls cells slots hC hH hl hr
  obtain ⟨p, e, R, s0, m, args, below, meth, cd⟩ := κ
  obtain ⟨hd, rfl, ho⟩ := gdec' (len := 2) hM hi rfl (by decide)
  obtain ⟨-, hx, hb, hrt, hml, hown, hts, hlk, hnm, hfr, hlo, het, hE⟩ := id hC
  have ho : Cond.constant (mN M).cls idx (Int32.ofInt z) ∈ gT := gIn_spec (by simpa [gOkI] using ho)
  exact lv_ldc hx hb hown (hts _ ho) hd (kk _ H locs ls cells slots hC hH hl hr)
theorem gOkF_spec {own : String} {idx k j : Nat} (h : gOkF own idx k j = true) : ∃ (C : String) (T : u_T) (n : Nat), gCl[k]? = some (C, T, n) ∧ j < n ∧ (T j).1 = C ∧ Cond.fieldLink own idx C (T j).2.1 (T j).2.2.1 ∈ gT := by
  unfold gOkF at h
  cases hc : gCl[k]? with
  | none => rw [hc] at h; cases h
  | some q =>
    rw [hc] at h
    obtain ⟨C, T, n⟩ := q
    simp only [Bool.and_eq_true, decide_eq_true_eq] at h
    exact ⟨C, T, n, rfl, h.1.1, h.1.2, gIn_spec h.2⟩
theorem go_get {idx a : Nat} {fs : List gV} {v : gV} (hM : gOk M) (hi : gAt (mT M) pc = some (pc0, .getfield idx, nx, z, k, j)) (hh : h a = some (.inr (k, fs))) (hv : gGetF fs j = some v) (kk : Go G M F nx lv (v :: st) N h c s) : Go G M F pc lv (vR a :: st) N h c s := by
  intro κ H locs ls cells slots hC hH hl hr
  obtain ⟨p, e, R, s0, m, args, below, meth, cd⟩ := κ
  obtain ⟨hd, rfl, ho⟩ := gdec' (len := 3) hM hi rfl (by decide)
  obtain ⟨-, hx, hb, hrt, hml, hown, hts, hlk, hnm, hfr, hlo, het, hE⟩ := id hC
  obtain ⟨C, T, n, hc, hj, hT, hw⟩ := gOkF_spec (show gOkF (mN M).cls idx k j = true from ho)
  obtain ⟨ea, hat⟩ := hH.1.at hh
  show W p (gl G) e R s0 m args below meth cd H locs cells slots (F (p, e, R, s0, m, args, below, meth, cd)) (F0 m pc ls (.ref (ga G a) :: st.map (gz G)))
  rw [ea]
  exact va_get (D := gD G) (cl := gCl) (tys := []) (ci := k) (C := C) (T := T) (N := n) (v := gz G v) hx hb hts (gUws k _ hc) hown hE.1 (gP1 hat) 0 rfl hc j hj (hts _ hw) (fun x h9 => by rw [hT] at h9; exact h9) (by simp [gGetF_spec _ _ _ hv]) hd (kk _ H locs ls cells slots hC hH hl hr)
/-- what a field of a kind takes -/
def gFit (ty : FieldType) (v : gV) : Bool := match ty, v with
  | .int, .inl _ => true
  | .boolean, .inl y => decide (y = 0) || decide (y = 1)
  | .long, .inr (.inl _) => true
  | .object _, .inr (.inr _) => true
  | .array _, .inr (.inr _) => true
  | _, _ => false
theorem gFit_spec {G : gG} {ty : FieldType} {v : gV} (hf : gFit ty v = true) : narrow ty (gz G v) = gz G v ∧ fits ty (gz G v) = true := by
  unfold gFit at hf
  split at hf
  · exact ⟨rfl, rfl⟩
  · simp only [Bool.or_eq_true, decide_eq_true_eq] at hf
    rcases hf with rfl | rfl
    · show narrow .boolean (.int (Int32.ofInt 0)) = .int (Int32.ofInt 0) ∧ fits .boolean (.int (Int32.ofInt 0)) = true
      decide
    · show narrow .boolean (.int (Int32.ofInt 1)) = .int (Int32.ofInt 1) ∧ fits .boolean (.int (Int32.ofInt 1)) = true
      decide
  · exact ⟨rfl, rfl⟩
  · rename_i r
    cases r <;> exact ⟨rfl, rfl⟩
  · rename_i r
    cases r <;> exact ⟨rfl, rfl⟩
  · cases hf
theorem gOkP_spec {M : gM} {k j : Nat} {C : String} {T : u_T} {n : Nat} (hc : gCl[k]? = some (C, T, n)) (h : gOkP M k j = true) : (T j).2.2.2 = false ∨ ((T j).2.2.2 = true ∧ (mN M).name = "<init>" ∧ (mN M).cls = C) := by
  unfold gOkP at h
  rw [hc] at h
  simp only [Bool.or_eq_true, Bool.and_eq_true, decide_eq_true_eq] at h
  cases hb : (T j).2.2.2 with
  | false => exact Or.inl rfl
  | true =>
    rw [hb] at h
    exact Or.inr ⟨rfl, (h.resolve_left (by decide)).1, (h.resolve_left (by decide)).2⟩
set_option maxHeartbeats 1000000 in
theorem go_put {idx a : Nat} {fs fs' : List gV} {v : gV} (hM : gOk M) (hi : gAt (mT M) pc = some (pc0, .putfield idx, nx, z, k, j)) (hh : h a = some (.inr (k, fs))) (hf : gFit (gFt k j) v = true) (hv : gSetF fs j v = some fs') (kk : Go G M F nx lv st N (gU h a (.inr (k, fs'))) c s) : Go G M F pc lv (v :: vR a :: st) N h c s := by
  intro κ H locs ls cells slots hC hH hl hr
  obtain ⟨p, e, R, s0, m, args, below, meth, cd⟩ := κ
  obtain ⟨hd, rfl, ho⟩ := gdec' (len := 3) hM hi rfl (by decide)
  obtain ⟨-, hx, hb, hrt, hml, hown, hts, hlk, hnm, hfr, hlo, het, hE⟩ := id hC
  have ho : gOkF (mN M).cls idx k j = true ∧ gOkP M k j = true := by simpa [gOkI] using ho
  obtain ⟨C, T, n, hc, hj, hT, hw⟩ := gOkF_spec ho.1
  obtain ⟨hlen, rfl⟩ := gSetF_spec _ _ _ _ hv
  obtain ⟨ea, hat⟩ := hH.1.at hh
  have hpos := (hH.1 a _ hh).1
  obtain ⟨hnar, hfit⟩ := gFit_spec (G := G) hf
  have hty := gFt_ok k _ hc
  have hne := gFn_ok k _ hc
  show W p (gl G) e R s0 m args below meth cd H locs cells slots (F (p, e, R, s0, m, args, below, meth, cd)) (F0 m pc ls (gz G v :: .ref (ga G a) :: st.map (gz G)))
  rw [ea]
  have hap := va_apart (own := (mN M).cls) (tys := []) (D := gD G) (cl := gCl) hts (gUws k _ hc) (gFt k) hty hne hE.1 hc
  obtain ⟨r, h1, cell, q1, q2, q3, q4⟩ := hat
  have hrr : r = (C, T, n) := Option.some.inj (h1.symm.trans hc)
  subst hrr
  obtain ⟨hSl, hfc, kC, hkC, hkind⟩ := hE.1.1 k _ hc
  obtain ⟨cf, kf, fi, f, hfi, hsl⟩ := hSl j hj
  have hfi2 : s0.fieldFound? C (T j).2.1 (T j).2.2.1 = some (cf, kf, fi, f) := by
    have h9 := hfi
    rw [hT] at h9
    exact h9
  have hst := (u_facts hfc hkC (u_lays hts (gUws k _ hc) hj) hfi).1
  have fin : ∀ H1 : Heap, H1[gZ G + a]? = some (cell.setSlot f.slot (gz G v)) → H1.size = H.size → (∀ q, q ≠ gZ G + a → H1[q]? = H[q]?) → W p (gl G) e R s0 m args below meth cd H1 (locs ++ [⟨gZ G + a, f.slot⟩]) cells slots (F (p, e, R, s0, m, args, below, meth, cd)) (F0 m (pc + 3) ls (st.map (gz G))) := by
    intro H1 e1 e2 e3
    rw [hsl] at e1
    refine kk _ H1 _ ls cells slots hC ⟨hH.1.upd hh ?_ e3, fun n9 h9 => by rw [e2]; exact hH.2.1 n9 h9, gS1 hH.2.2 e2 e3 (gA_in hpos) _⟩ hl hr
    refine ⟨_, hc, t_OB.to (V := updV (vp_V (fs.map (gz G))) j (gz G v)) ⟨_, e1, q2, q3, t_set q4 hap hj (gz G v)⟩ (fun i9 _ => ?_)⟩
    rw [vp_updV_set (by simpa using hlen)]
    simp
  rcases gOkP_spec hc ho.2 with hfl | ⟨hfl, hin, hcl⟩
  · have hlay := hts _ (gUws k _ hc _ (u_in_lay hj))
    unfold u_lay at hlay
    rw [if_neg (by rw [hfl]; decide)] at hlay
    have h6 := u_store hfc hkC hkind hlay hfi (hty j hj) hnar hfit
    exact W.putK hx hb (f := f) ⟨hown, hts _ hw, ⟨_, _, _, hfi2⟩, hst⟩ (by rw [q2]; exact h6) q1 q3 (by rw [hsl]; exact k2_hasslot (q4 j hj)) rfl rfl hd fin
  · have hlay := hts _ (gUws k _ hc _ (u_in_lay hj))
    unfold u_lay at hlay
    rw [if_pos hfl] at hlay
    have hcf : m.cls = cf := by
      obtain ⟨_, _, c', _, _, _, -, -, hf', -, -, -, hown2, -⟩ := Cond.laysFinal_spec hlay
      have e1 : c' = cf := by have := hfi.symm.trans hf'; simp at this; exact this.1.symm
      rw [hT, ← hcl] at hown2
      rw [← e1]
      exact Option.some.inj (hown.symm.trans hown2)
    have h6 := u_fits hfc hkC hkind (Or.inr hlay) hfi (hty j hj) hnar hfit
    exact W.putFinK hx hb hown (hts _ hw) hfi2 hst hcf (hnm.trans hin) (by rw [q2]; exact h6) q1 q3 (by rw [hsl]; exact k2_hasslot (q4 j hj)) rfl rfl hd fin
/-- a function with one value changed -/
def gF {α : Type} (f : Nat → α) (k : Nat) (x : α) : Nat → α := fun j => if j = k then x else f j
theorem go_iald {a n : Nat} {i : Int} {f : Nat → Int} (hM : gOk M) (hi : gAt (mT M) pc = some (pc0, .iaload, nx, z, k, j)) (hh : h a = some (.inl (0, n, .inl f))) (h0 : 0 ≤ i) (h1 : i < n) (hn : n ≤ 2147483647) (kk : Go G M F nx lv (vI (f i.toNat) :: st) N h c s) : Go G M F pc lv (vI i :: vR a :: st) N h c s := by
  intro κ H locs ls cells slots hC hH hl hr
  obtain ⟨p, e, R, s0, m, args, below, meth, cd⟩ := κ
  obtain ⟨hd, rfl, ho⟩ := gdec' (len := 1) hM hi rfl (by decide)
  obtain ⟨-, hx, hb, hrt, hml, hown, hts, hlk, hnm, hfr, hlo, het, hE⟩ := id hC
  obtain ⟨ea, hat⟩ := hH.1.at hh
  show W p (gl G) e R s0 m args below meth cd H locs cells slots (F (p, e, R, s0, m, args, below, meth, cd)) (F0 m pc ls (.int (Int32.ofInt i) :: .ref (ga G a) :: st.map (gz G)))
  rw [ea]
  refine va_iald (f := fun i => Int32.ofInt (f i)) hx hb (gK1 hE (k := 0) rfl) (gP1 hat) 0 0 rfl rfl (gI_in h0 h1 hn) hd ?_
  rw [gI_cl h0 (by omega)]
  exact kk _ H locs ls cells slots hC hH hl hr
theorem go_lald {a n : Nat} {i : Int} {f : Nat → Int64} (hM : gOk M) (hi : gAt (mT M) pc = some (pc0, .laload, nx, z, k, j)) (hh : h a = some (.inl (1, n, .inr (.inl f)))) (h0 : 0 ≤ i) (h1 : i < n) (hn : n ≤ 2147483647) (kk : Go G M F nx lv (vL (f i.toNat) :: st) N h c s) : Go G M F pc lv (vI i :: vR a :: st) N h c s := by
  intro κ H locs ls cells slots hC hH hl hr
  obtain ⟨p, e, R, s0, m, args, below, meth, cd⟩ := κ
  obtain ⟨hd, rfl, ho⟩ := gdec' (len := 1) hM hi rfl (by decide)
  obtain ⟨-, hx, hb, hrt, hml, hown, hts, hlk, hnm, hfr, hlo, het, hE⟩ := id hC
  obtain ⟨ea, hat⟩ := hH.1.at hh
  show W p (gl G) e R s0 m args below meth cd H locs cells slots (F (p, e, R, s0, m, args, below, meth, cd)) (F0 m pc ls (.int (Int32.ofInt i) :: .ref (ga G a) :: st.map (gz G)))
  rw [ea]
  refine va_lald (f := f) hx hb (gK1 hE (k := 1) rfl) (gP1 hat) 0 0 rfl rfl (gI_in h0 h1 hn) hd ?_
  rw [gI_cl h0 (by omega)]
  exact kk _ H locs ls cells slots hC hH hl hr
theorem go_aald {a n ty : Nat} {C : String} {i : Int} {f : Nat → Option Nat} (hM : gOk M) (hi : gAt (mT M) pc = some (pc0, .aaload, nx, z, k, j)) (hh : h a = some (.inl (ty, n, .inr (.inr f)))) (hty : gTy[ty]? = some (.object C)) (h0 : 0 ≤ i) (h1 : i < n) (hn : n ≤ 2147483647) (kk : Go G M F nx lv (.inr (.inr (f i.toNat)) :: st) N h c s) : Go G M F pc lv (vI i :: vR a :: st) N h c s := by
  intro κ H locs ls cells slots hC hH hl hr
  obtain ⟨p, e, R, s0, m, args, below, meth, cd⟩ := κ
  obtain ⟨hd, rfl, ho⟩ := gdec' (len := 1) hM hi rfl (by decide)
  obtain ⟨-, hx, hb, hrt, hml, hown, hts, hlk, hnm, hfr, hlo, het, hE⟩ := id hC
  obtain ⟨ea, hat⟩ := hH.1.at hh
  show W p (gl G) e R s0 m args below meth cd H locs cells slots (F (p, e, R, s0, m, args, below, meth, cd)) (F0 m pc ls (.int (Int32.ofInt i) :: .ref (ga G a) :: st.map (gz G)))
  rw [ea]
  refine va_aldq (f := fun i => (f i).map (ga G)) (C := C) hx hb (gK1 hE hty) (gP1 hat) 0 0 rfl rfl (gI_in h0 h1 hn) hd ?_
  have e9 : va_rf ((f i.toNat).map (ga G)) = gz G (.inr (.inr (f i.toNat))) := by cases f i.toNat <;> rfl
  rw [gI_cl h0 (by omega), e9]
  exact kk _ H locs ls cells slots hC hH hl hr
theorem go_sld {i : Int} (hM : gOk M) (hi : gAt (mT M) pc = some (pc0, .iaload, nx, z, k, j)) (h0 : 0 ≤ i) (h1 : i < gL G) (hn : gL G ≤ 2147483647) (kk : Go G M F nx lv (vI (gxs G i.toNat).toInt :: st) N h c s) : Go G M F pc lv (vI i :: vR 0 :: st) N h c s := by
  intro κ H locs ls cells slots hC hH hl hr
  obtain ⟨p, e, R, s0, m, args, below, meth, cd⟩ := κ
  obtain ⟨hd, rfl, ho⟩ := gdec' (len := 1) hM hi rfl (by decide)
  obtain ⟨-, hx, hb, hrt, hml, hown, hts, hlk, hnm, hfr, hlo, het, hE⟩ := id hC
  obtain ⟨-, -, -, -, -, hX, hbz, hZs, -⟩ := hE
  refine va_sld hx hb hX (Nat.lt_of_le_of_lt hbz hZs) (show ¬ gA G (gb G) from Nat.not_lt.mpr hbz) hH.2.2 (gI_in h0 h1 hn) hd ?_
  rw [gI_cl h0 (by omega)]
  have h9 := kk _ H locs ls cells slots hC hH hl hr
  have e9 : gz G (vI (gxs G i.toNat).toInt) = .int (gxs G i.toNat) := by simp [gz]
  simp only [gWk, List.map_cons, e9] at h9
  exact h9
theorem go_slen (hM : gOk M) (hi : gAt (mT M) pc = some (pc0, .arraylength, nx, z, k, j)) (kk : Go G M F nx lv (vI (gL G) :: st) N h c s) : Go G M F pc lv (vR 0 :: st) N h c s := by
  intro κ H locs ls cells slots hC hH hl hr
  obtain ⟨p, e, R, s0, m, args, below, meth, cd⟩ := κ
  obtain ⟨hd, rfl, ho⟩ := gdec' (len := 1) hM hi rfl (by decide)
  obtain ⟨-, hx, hb, hrt, hml, hown, hts, hlk, hnm, hfr, hlo, het, hE⟩ := id hC
  obtain ⟨-, -, -, -, -, hX, hbz, hZs, -⟩ := hE
  refine va_slen hx hb hX (Nat.lt_of_le_of_lt hbz hZs) (show ¬ gA G (gb G) from Nat.not_lt.mpr hbz) hH.2.2 hd ?_
  rw [← Int32.ofInt_eq_ofNat]
  exact kk _ H locs ls cells slots hC hH hl hr
theorem go_alen {a n ty : Nat} {f : gC} {t : FieldType} (hM : gOk M) (hi : gAt (mT M) pc = some (pc0, .arraylength, nx, z, k, j)) (hh : h a = some (.inl (ty, n, f))) (hty : gTy[ty]? = some t) (kk : Go G M F nx lv (vI n :: st) N h c s) : Go G M F pc lv (vR a :: st) N h c s := by
  intro κ H locs ls cells slots hC hH hl hr
  obtain ⟨p, e, R, s0, m, args, below, meth, cd⟩ := κ
  obtain ⟨hd, rfl, ho⟩ := gdec' (len := 1) hM hi rfl (by decide)
  obtain ⟨-, hx, hb, hrt, hml, hown, hts, hlk, hnm, hfr, hlo, het, hE⟩ := id hC
  obtain ⟨ea, hat⟩ := hH.1.at hh
  show W p (gl G) e R s0 m args below meth cd H locs cells slots (F (p, e, R, s0, m, args, below, meth, cd)) (F0 m pc ls (.ref (ga G a) :: st.map (gz G)))
  rw [ea]
  exact va_alen hx hb (gK1 hE hty) (gP1 hat) 0 0 rfl rfl (v := Int32.ofInt n) Int32.ofInt_eq_ofNat.symm hd (kk _ H locs ls cells slots hC hH hl hr)
theorem go_iast {a n : Nat} {i x : Int} {f : Nat → Int} (hM : gOk M) (hi : gAt (mT M) pc = some (pc0, .iastore, nx, z, k, j)) (hh : h a = some (.inl (0, n, .inl f))) (h0 : 0 ≤ i) (h1 : i < n) (hn : n ≤ 2147483647) (kk : Go G M F nx lv st N (gU h a (.inl (0, n, .inl (gF f i.toNat x)))) c s) : Go G M F pc lv (vI x :: vI i :: vR a :: st) N h c s := by
  intro κ H locs ls cells slots hC hH hl hr
  obtain ⟨p, e, R, s0, m, args, below, meth, cd⟩ := κ
  obtain ⟨hd, rfl, ho⟩ := gdec' (len := 1) hM hi rfl (by decide)
  obtain ⟨-, hx, hb, hrt, hml, hown, hts, hlk, hnm, hfr, hlo, het, hE⟩ := id hC
  obtain ⟨ea, hat⟩ := hH.1.at hh
  have hpos := (hH.1 a _ hh).1
  show W p (gl G) e R s0 m args below meth cd H locs cells slots (F (p, e, R, s0, m, args, below, meth, cd)) (F0 m pc ls (.int (Int32.ofInt x) :: .int (Int32.ofInt i) :: .ref (ga G a) :: st.map (gz G)))
  rw [ea]
  refine W.iast hx hb hat ((hE.2.1 0 .int rfl).1 n (fun j => .int (Int32.ofInt (f j)))) (fun q => by cases q) (by show ¬ (_ < 0 ∨ (arrV _ _ _).slots.size ≤ _); rw [arrV_size]; exact gI_in h0 h1 hn) rfl rfl hd fun H1 e1 e2 e3 => ?_
  refine kk _ H1 _ ls cells slots hC ⟨hH.1.upd hh ?_ e3, fun n9 h9 => by rw [e2]; exact hH.2.1 n9 h9, gS1 hH.2.2 e2 e3 (gA_in hpos) _⟩ hl hr
  show H1[gZ G + a]? = some (vp_cell _ _)
  rw [e1]
  show some ((arrV (gdA G 0) n (fun j => .int (Int32.ofInt (f j)))).setSlot _ _) = some (arrV (gdA G 0) n (fun j => .int (Int32.ofInt (gF f i.toNat x j))))
  rw [arrV_store, gI_cl h0 (by omega)]
  congr 2
  funext q
  by_cases hq : q = i.toNat
  · subst hq
    simp [updV, gF]
  · simp [updV, gF, hq]
theorem go_last {a n : Nat} {i : Int} {x : Int64} {f : Nat → Int64} (hM : gOk M) (hi : gAt (mT M) pc = some (pc0, .lastore, nx, z, k, j)) (hh : h a = some (.inl (1, n, .inr (.inl f)))) (h0 : 0 ≤ i) (h1 : i < n) (hn : n ≤ 2147483647) (kk : Go G M F nx lv st N (gU h a (.inl (1, n, .inr (.inl (gF f i.toNat x))))) c s) : Go G M F pc lv (vL x :: vI i :: vR a :: st) N h c s := by
  intro κ H locs ls cells slots hC hH hl hr
  obtain ⟨p, e, R, s0, m, args, below, meth, cd⟩ := κ
  obtain ⟨hd, rfl, ho⟩ := gdec' (len := 1) hM hi rfl (by decide)
  obtain ⟨-, hx, hb, hrt, hml, hown, hts, hlk, hnm, hfr, hlo, het, hE⟩ := id hC
  obtain ⟨ea, hat⟩ := hH.1.at hh
  have hpos := (hH.1 a _ hh).1
  show W p (gl G) e R s0 m args below meth cd H locs cells slots (F (p, e, R, s0, m, args, below, meth, cd)) (F0 m pc ls (.long x :: .int (Int32.ofInt i) :: .ref (ga G a) :: st.map (gz G)))
  rw [ea]
  refine W.last hx hb hat ((hE.2.1 1 .long rfl).1 n (fun j => .long (f j))) (fun q => by cases q) (by show ¬ (_ < 0 ∨ (arrV _ _ _).slots.size ≤ _); rw [arrV_size]; exact gI_in h0 h1 hn) rfl rfl hd fun H1 e1 e2 e3 => ?_
  refine kk _ H1 _ ls cells slots hC ⟨hH.1.upd hh ?_ e3, fun n9 h9 => by rw [e2]; exact hH.2.1 n9 h9, gS1 hH.2.2 e2 e3 (gA_in hpos) _⟩ hl hr
  show H1[gZ G + a]? = some (vp_cell _ _)
  rw [e1]
  show some ((arrV (gdA G 1) n (fun j => .long (f j))).setSlot _ _) = some (arrV (gdA G 1) n (fun j => .long (gF f i.toNat x j)))
  rw [arrV_store, gI_cl h0 (by omega)]
  congr 2
  funext q
  by_cases hq : q = i.toNat
  · subst hq
    simp [updV, gF]
  · simp [updV, gF, hq]
end
