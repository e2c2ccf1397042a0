/-! what is thrown, and caught -/
def gInS (Y : String) : MethodName := ⟨Y, "<init>", "(Ljava/lang/String;)V"⟩
def gOkT (own : String) (ik ic : Nat) (cls : String) (names : List String) : Bool :=
  Bundle.fit cls && names.all Bundle.fit && gIn (Cond.classLink own ik cls) && gIn (Cond.initialized cls) &&
  ((vx_atS own ic cls names).filter goodWord).all gIn &&
  ((vx_atS own ic cls names).filter (fun w => !goodWord w)).all (fun w => decide (w ∈ gCa.map (fun q => Cond.castable q.1 q.2) ++ gDe.map Cond.declares)) &&
  (Cond.classLink own ik cls :: Cond.initialized cls :: vx_atS own ic cls names).all vx_ot
section
variable {G : gG} {M : gM} {F : gK → State → Prop} {pc : Nat} {lv lv' : List (Option gV)} {st st' : List gV} {N : Option Nat} {h : gH} {c s : Nat} {pc0 nx k j : Nat} {z : Int}

set_option maxHeartbeats 1000000 in
theorem go_throw {ik is ic q : Nat} {cls text : String} {names : List String} {Q : Option gV → Option Nat → gH → Prop} {X : String → gH → Prop} {a1 a2 a3 a4 b1 b2 b3 b4 d1 d2 d3 e1 e2 e3 e4 e5 : Nat} {y1 y2 y3 y4 : Int} {e6 : Nat} (hM : gOk M) (h0 : gAt (mT M) pc = some (pc0, .new ik, nx, z, k, 1)) (h3 : gAt (mT M) (pc + 3) = some (a1, .dup, a2, y1, a3, a4)) (h4 : gAt (mT M) (pc + 4) = some (b1, .ldc is, b2, y2, q, 1)) (h6 : gAt (mT M) (pc + 6) = some (d1, .invokespecial ic, d2, 2, d3, e1)) (h9 : gAt (mT M) (pc + 9) = some (e2, .athrow, e3, y4, e4, e5))
    (hT : gOkT (mN M).cls ik ic cls names = true) (hs : gSt[q]? = some ((mN M).cls, is, text)) (hm : mH M = []) (hf : Nat.blt (names.length + 3) (mF M) = true) (hlo9 : Nat.ble (13 * (names.length + 1) + 43) (mO M) = true) (hX : X cls h) : Go G M (gFin G Q X) pc lv [] N h (c + 1) (s + 6) := by
  intro κ H locs ls cells slots hC hH hl hr
  obtain ⟨p, e, R, s0, m, args, below, meth, cd⟩ := κ
  obtain ⟨htr, hx, hb, hrt, hml, hown, hts, hlk, hnm, hfr, hlo, het, hE⟩ := id hC
  obtain ⟨g0, -, -⟩ := gdec' (len := 3) hM h0 rfl (by decide)
  obtain ⟨g3, -, -⟩ := gdec' (len := 1) hM h3 rfl (by decide)
  obtain ⟨g4, -, -⟩ := gdec' (len := 2) hM h4 rfl (by decide)
  obtain ⟨g6, -, -⟩ := gdec' (len := 3) hM h6 rfl (by decide)
  obtain ⟨g9, -, -⟩ := gdec' (len := 1) hM h9 rfl (by decide)
  unfold gOkT at hT
  simp only [Bool.and_eq_true, decide_eq_true_eq] at hT
  obtain ⟨⟨⟨⟨⟨⟨t1, t2⟩, t3⟩, t4⟩, t5⟩, t6⟩, t7⟩ := hT
  have hr : cells + (c + 1) ≤ R.cells ∧ slots + (s + 6) ≤ R.slots := hr
  have hf := Nat.le_of_ble_eq_true hf
  have hlo9 := Nat.le_of_ble_eq_true hlo9
  obtain ⟨k1, k2, k3, k4, k5, k6, k7, k8, k9, k10, k11, k12, k13⟩ := id hE
  refine vx_throwS (cls := cls) (text := text) (names := names) (sa := gsa G q) (A := gA G) (rest := []) hx hb htr hown t1 (fun n hn => List.all_eq_true.mp t2 n hn) (hts _ (gIn_spec t3)) (hts _ (gIn_spec t4)) (k5 q _ hs) ?_ (fun w hw => List.all_eq_true.mp t7 w hw) k3 k4 hH.2.2 (by rw [hml]; exact hl.1) g0 g3 g4 g6 g9 ?_ (by omega) (by simp; omega) (by omega) (by omega) hlk ?_ hH.2.2.2.2 (by omega) (by omega)
  · refine vx_hat (B := gCa.map (fun q => Cond.castable q.1 q.2) ++ gDe.map Cond.declares) (fun w hw => hts w (gIn_spec (List.all_eq_true.mp t5 w hw))) (fun w hw => of_decide_eq_true (List.all_eq_true.mp t6 w hw)) (fun w hw => ?_)
    rcases List.mem_append.mp hw with h8 | h8
    · obtain ⟨q9, hq9, rfl⟩ := List.mem_map.mp h8
      exact va_Nw.use rfl (k12 q9 hq9)
    · obtain ⟨y9, hy9, rfl⟩ := List.mem_map.mp h8
      exact va_Nw.use rfl (k13 y9 hy9)
  · intro x hx9
    rw [het, hm] at hx9
    cases hx9
  · intro t hal hz hq
    refine ⟨⟨h, hX, fun i e9 hi9 => ⟨(hH.1 i e9 hi9).1, (hH.1 i e9 hi9).2.kept (hq _ (hH.1 i e9 hi9).2.lt)⟩⟩, Nat.le_trans hH.2.2.1 hz, fun x g1 g2 => ?_⟩
    rw [hq x (Nat.lt_of_lt_of_le g1 hH.2.2.1)]
    exact hH.2.2.2.1 x g1 g2
end
