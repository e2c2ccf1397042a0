/-! the steps of the tree, with all files in view -/
section
variable {A : cA} {SS : Nat → mS} {F : Nat → Prop} {S : mS} {t m k l p P h b : Nat} {i : Int}
theorem ssp_own (o : SpO S m l p P h b) (x : Nat) : Own (sSp S l p P h b) x ↔ Own S x ∨ x = b := by
  obtain ⟨o1, o2, o3, o4, o5, o6, o7, o8⟩ := o
  constructor
  · rintro ⟨y, z, h1, h2, h3⟩
    rcases ssp_old o2 h2 with ⟨a1, a2, a3⟩ | ⟨r, a1, a2, a3⟩
    · exact Or.inr (by rw [← h3, a3])
    · exact Or.inl ⟨y, r, h1, a1, by rw [← a2, h3]⟩
  · rintro (⟨y, r, h1, h2, h3⟩ | h1)
    · by_cases e : y = l
      · subst e
        by_cases e2 : r ≤ p
        · exact ⟨y, r, h1, by rw [ssp_kl]; omega, by rw [ssp_bl, insN_lo (by omega)]; exact h3⟩
        · exact ⟨y, r + 1, h1, by rw [ssp_kl]; omega, by rw [ssp_bl, insN_hi (by omega)]; exact h3⟩
      · exact ⟨y, r, h1, by rw [ssp_ko e]; exact h2, by rw [ssp_bo e]; exact h3⟩
    · exact ⟨l, p + 1, o1, by rw [ssp_kl]; omega, by rw [ssp_bl, insN_at]; exact h1.symm⟩
theorem sp_tk : aTk (spA A t k) = aTk A := by
  obtain ⟨-, -, -, s4, -⟩ := sp_same (A := A) (t := t) (k := k)
  rw [s4]
  have e1 : aTk (spB A t k) = aTk A := by
    show gF (gF (aTk A) (aFs A t k) (aTk A (aFs A t k))) (aWy A t k) (aTk A (aWy A t k)) = _
    rw [gF_same, gF_same]
  show gF (aTk (spB A t k)) (aWy A t (k - 1)) (aTk (spB A t k) (aWy A t (k - 1))) = _
  rw [gF_same, e1]
theorem sp_num (hne : aFs A t k ≠ aWy A t k) : aRu (spA A t k) = aRu A ∧ aBl (spA A t k) = gF (aBl A) t (aBl A t + 1) ∧ aMa (spA A t k) = aMa A ∧ aMw (spA A t k) = aMw A ∧ aLb (spA A t k) = gF (aLb A) t (if aDp A (aWy A t k) = 0 then aLb A t + 1 else aLb A t) ∧ aLe (spA A t k) = aLe A ∧ aM (spA A t k) = aM A ∧ aFs (spA A t k) t = aFs A t := by
  obtain ⟨-, -, -, -, s5, s6, s7, s8, s9, s10, s11⟩ := sp_same (A := A) (t := t) (k := k)
  rw [s5, s6, s7, s8, s9, s10, s11]
  refine ⟨gF_same _ _, rfl, gF_same _ _, gF_same _ _, ?_, rfl, rfl, ?_⟩
  · show gF (aLb A) t (if aDp (mvA A (aWy A t k) (((aRm A (aWy A t k) : Int) + 1) / 2) (aFs A t k)) (aFs A t k) = 0 then aLb A t + 1 else aLb A t) = _
    rw [mv_dpj hne]
  · unfold spA
    split
    · exact fH_fs
    · rfl
/-- a node splits -/
theorem CX.split (hc : CX A SS F) (ht : t < 4) (hS : SS t = S) (hw : WyTo A t S i) (hi : -1 ≤ i ∧ i < mn S) (hk : 1 ≤ k ∧ k ≤ md S) (hl : md S - k = l) (hh : (aM A + 1) / 2 = h) (hfull : mc S l (mQ S i.toNat (l + 1)) = aM A) (hroom : mc S (l + 1) (mQ S i.toNat (l + 2)) < if l + 1 = md S then 4 else aM A) (hb : aFs A t k = b) (hF : F b) :
    SpO S (aM A) l (mQ S i.toNat (l + 1)) (mQ S i.toNat (l + 2)) h b ∧ SplitOk A t k ∧ CX (spA A t k) (gF SS t (sSp S l (mQ S i.toNat (l + 1)) (mQ S i.toNat (l + 2)) h b)) (fun x => F x ∧ x ≠ b) ∧ WyTo (spA A t k) t (sSp S l (mQ S i.toNat (l + 1)) (mQ S i.toNat (l + 2)) h b) i := by
  subst hS
  have hf := hc.2.1 t ht
  obtain ⟨hs, hr, ha, u1, u2, u3⟩ := hf
  have hj := hc.inj ht
  have hb2 := hc.2.2.2.2.1 b hF
  obtain ⟨nb1, nb2⟩ := hc.fre (t := t) hF
  have hb3 : ∀ k q, k ≤ md (SS t) → q < mK (SS t) k → mb (SS t) k q ≠ b := by
    intro y q hy hq e
    by_cases h1 : y < md (SS t)
    · exact nb2 t y q ⟨ht, h1, hq, e⟩
    · have h3 : y = md (SS t) := by omega
      subst h3
      have h4 := hs.2.1
      rw [show q = 0 by omega, hs.2.2.1] at e
      omega
  obtain ⟨hO, hSp, hab, hwy, ok'⟩ := ab_split hc.1 ht hs hj ha hw hi hk hl hh hfull hroom hb (by omega) hb3
  refine ⟨hO, hSp, ?_, hwy⟩
  have hO' := hO
  obtain ⟨o1, o2, o3, o4, o5, o6, o7, o8⟩ := hO'
  obtain ⟨p1, p2, p3, p4, p5, p6, p7, p8, p9, p10, p11, p12⟩ := hSp
  obtain ⟨n1, n2, n3, n4, n5, n6, n7, n8⟩ := sp_num (A := A) (t := t) (k := k) (Ne.symm p5)
  have e1 : aWy A t k = mb (SS t) l (mQ (SS t) i.toNat (l + 1)) := by
    rw [(hw.2 k hk.2).1]
    unfold pW
    rw [hl]
  have e2 : aWy A t (k - 1) = mb (SS t) (l + 1) (mQ (SS t) i.toNat (l + 2)) := by
    rw [(hw.2 (k - 1) (by omega)).1]
    unfold pW
    rw [show md (SS t) - (k - 1) = l + 1 by omega]
  have hq : ¬ Oth SS t (aWy A t (k - 1)) ∧ (aWy A t (k - 1) < 256 → Own (SS t) (aWy A t (k - 1))) := by
    by_cases h1 : l + 1 < md (SS t)
    · have ho : Own (SS t) (aWy A t (k - 1)) := ⟨l + 1, _, h1, o3, e2.symm⟩
      exact ⟨hc.own ht ho, fun _ => ho⟩
    · have h3 : l + 1 = md (SS t) := by omega
      have h4 := hs.2.1
      have h5 : mQ (SS t) i.toNat (l + 2) = 0 := by
        rw [← h3] at h4
        omega
      rw [h5, h3, hs.2.2.1] at e2
      rw [e2]
      exact ⟨hc.root, fun z => by omega⟩
  have hoo : Own (SS t) (aWy A t k) := ⟨l, _, o1, o2, e1.symm⟩
  obtain ⟨hN, hhN⟩ : ∃ hN : Nat, ((aRm A (aWy A t k) : Int) + 1) / 2 = hN := ⟨(((aRm A (aWy A t k) : Int) + 1) / 2).toNat, by omega⟩
  have hoth := fun {x : Nat} => sp_oth (A := A) (t := t) (k := k) (x := x) rfl hb rfl hhN
  have d0 : aDp A (aWy A t k) = l := by
    rw [e1]
    exact (ha l (by omega) _ o2).1
  refine hc.step ht ok' n7 ⟨by rw [n7]; exact ssp_sh hs hO, hr, hab, by rw [n1]; exact u1, ?_, ?_⟩ (ssp_inj hj hO) (fun t' ht' => ⟨by rw [n1], by rw [n2, gF_n ht'], by rw [n5, gF_n ht']⟩) (fun x hx => ?_) (fun x hx => ?_) (fun x x1 x2 hx => ?_) (fun x hx => hc.2.2.2.2.1 x hx.1) (fun x hx => (hc.fre hx.1).1) (by rw [sp_tk]; exact hc.2.2.2.2.2.1) (by rw [sp_tk, n6]; exact hc.2.2.2.2.2.2)
  · rw [n2, gF_s, u2]
    show ((sm (mK (SS t)) (md (SS t)) : Nat) : Int) + 1 = ((sm (incN (mK (SS t)) l) (md (SS t)) : Nat) : Int)
    rw [sm_inc_hi _ o1]
    omega
  · rw [n5, gF_s, u3, d0]
    have hdd : ¬ md (SS t) = 0 := by omega
    show _ = if md (SS t) = 0 then (0 : Int) else ((mK (sSp (SS t) l (mQ (SS t) i.toNat (l + 1)) (mQ (SS t) i.toNat (l + 2)) h b) 0 : Nat) : Int)
    rw [if_neg hdd, if_neg hdd]
    by_cases h9 : l = 0
    · subst h9
      rw [if_pos (show ((0 : Nat) : Int) = 0 from rfl), ssp_kl]
      omega
    · rw [if_neg (by omega), ssp_ko (by omega)]
  · obtain ⟨y1, y2, y3⟩ := hoth (x := x) (fun z => hc.own ht hoo (z ▸ hx)) (fun z => nb1 (z ▸ hx)) (fun z => hq.1 (z ▸ hx))
    exact ⟨y1, y2, y3, by rw [sp_tk]⟩
  · rcases (ssp_own hO x).mp hx with z | z
    · exact hc.own ht z
    · rw [z]
      exact nb1
  · have g := hc.ownF ht x1 x2 hx
    have hoS : Own (sSp (SS t) l (mQ (SS t) i.toNat (l + 1)) (mQ (SS t) i.toNat (l + 2)) h b) x ↔ Own (SS t) x ∨ x = b := ssp_own hO x
    unfold bOk at g ⊢
    rw [sp_tk, hoS]
    by_cases e : x = b
    · subst e
      rcases g with ⟨g1, _⟩ | ⟨_, _, g3, _⟩
      · exact Or.inl ⟨g1, Or.inr ⟨fun z => z.2 rfl, Or.inr rfl⟩⟩
      · exact absurd hF g3
    · rcases g with ⟨g1, ⟨g2, g3⟩ | ⟨g2, g3⟩⟩ | ⟨g1, g2, g3, g4⟩
      · exact Or.inl ⟨g1, Or.inl ⟨⟨g2, e⟩, fun z => z.elim g3 e⟩⟩
      · exact Or.inl ⟨g1, Or.inr ⟨fun z => g2 z.1, Or.inl g3⟩⟩
      · refine Or.inr ⟨g1, ?_, fun z => g3 z.1, fun z => z.elim g4 e⟩
        obtain ⟨y1, y2, y3⟩ := hoth (x := x) (fun z => g4 (z ▸ hoo)) e (fun z => g4 (by rw [z]; exact hq.2 (by omega)))
        rw [y2]
        exact g2
end
