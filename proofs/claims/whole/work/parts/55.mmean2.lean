/-! the mean of the reference -/
abbrev FrQ (I J : Nat → Nat → Int) : Prop := Fr [65, 66, 67, 68, 69, 70, 71, 72, 73, 74, 75, 76] [(44, 38), (44, 39), (44, 43), (44, 47), (44, 54), (44, 55), (44, 56), (44, 57), (44, 58)] I J
noncomputable def mnS (I : Nat → Nat → Int) (m p : Nat) : Int × Int × Int := mnF (fun w => pEv I m p 0 w (I 47 m - 1) 0) (fun w => lkl (fun c => I 51 (2 * m + c)) w (I 50 m).toNat) (vOn I m + 1).toNat
def lowV (a b part : Int) : Int := if part = 0 then ((a.toNat / Nat.gcd a.toNat b.toNat : Nat) : Int) else ((b.toNat / Nat.gcd a.toNat b.toNat : Nat) : Int)
def meaB (what part : Int) : Int := if (0 ≤ what ∧ what ≤ 1) ∧ 0 ≤ part ∧ part ≤ 1 then 1 else 0
noncomputable def meaV (I : Nat → Nat → Int) (plan march what part : Int) : Int := if barV I plan march (-1) (meaB what part) = 0 then lowV (if what = 0 then (mnS I march.toNat plan.toNat).1 else (mnS I march.toNat plan.toNat).2.1) (mnS I march.toNat plan.toNat).2.2 part else barV I plan march (-1) (meaB what part)
theorem s_mmean {sh : oS} {I : Nat → Nat → Int} {L : Nat → Nat → Int64} {Q : oQ} (hs : Sh sh) {plan march what part : Int} (h : mOK I) (hp : inR plan) (hm : inR march) (hw : inR what) (hpa : inR part)
    (k : ∀ J, FrQ I J → Q (some (vI (meaV I plan march what part))) (sh, J, L)) : T_X12_mean [vR 44, vI plan, vI march, vI what, vI part] (sh, I, L) Q := by
  refine And.intro (Nat.le_of_ble_eq_true rfl) (fun K hK => ?_)
  have tl : ∀ a, a = meaB what part → K 28 [some (vR 44), none, some (vI march), some (vI what), some (vI part), none] [vI a, vI (-1), vI march, vI plan, vR 44] (sh, I, L) (0, 0) := by
    intro a ha
    refine B_X12_mean_28 hK hs (k := ?_)
    refine s_barsN hs h hp hm (by rw [ha]; unfold meaB; split <;> decide) (fun r J F hr ri hz => ?_)
    unfold meaV at k
    rw [← ha, ← hr] at k
    refine B_X12_mean_31 hK (n35 := ri) (kt := fun z => ?_) (kf := fun z => ?_)
    · obtain ⟨p, m, e1, e2, q⟩ := hz z
      subst e1 e2
      rw [if_pos z, Int.toNat_natCast, Int.toNat_natCast] at k
      refine B_X12_mean_41 hK hs (k := ?_)
      refine s_layMean hs h q (fun J2 q2 v2 bd => ?_)
      have v3 : (J2 44 56, J2 44 57, J2 44 58) = mnS I m p := v2
      rw [← v3] at k
      have kk := k J2 q2.1
      have tl2 : ∀ s0, s0 = (if what = 0 then J2 44 56 else J2 44 57) → K 61 [some (vR 44), none, none, none, some (vI part), none] [vI s0] (sh, J2, L) (0, 0) := by
        intro s0 es
        refine B_X12_mean_61 hK hs (k := ?_)
        have kk : Q (some (vI (lowV (if what = 0 then J2 44 56 else J2 44 57) (J2 44 58) part))) (sh, J2, L) := kk
        rw [← es] at kk
        have hb : 0 ≤ s0 ∧ s0 ≤ 10000000 := by rw [es]; split <;> omega
        obtain ⟨n, en⟩ : ∃ n : Nat, s0 = n := ⟨s0.toNat, by omega⟩
        obtain ⟨b, eb⟩ : ∃ b : Nat, J2 44 58 = b := ⟨(J2 44 58).toNat, by omega⟩
        rw [eb, en] at kk
        rw [eb, en]
        simp only [lowV, Int.toNat_natCast] at kk
        refine s_lowest (by omega) (by omega) (by omega) hpa ?_
        exact B_X12_mean_70 hK (k := kk)
      refine B_X12_mean_46 hK (n47 := hw) (kt := fun y => ?_) (kf := fun y => ?_)
      · exact B_X12_mean_57 hK hs (k := tl2 _ (by rw [if_neg y]))
      · exact B_X12_mean_50 hK hs (k := tl2 _ (by rw [if_pos (Classical.not_not.1 y)]))
    · rw [if_neg z] at k
      exact B_X12_mean_38 hK (k := k J F)
  refine B_X12_mean_0 hK (k := ?_)
  refine s_within hw (by decide) (by decide) (fun a ha => ?_)
  refine B_X12_mean_10 hK (n10 := by rw [ha]; split <;> decide) (kt := fun y => ?_) (kf := fun y => ?_)
  · refine B_X12_mean_27 hK (k := tl 0 ?_)
    unfold meaB
    rw [if_neg]
    intro z
    rw [ha, if_pos z.1] at y
    exact absurd y (by decide)
  · have g1 : 0 ≤ what ∧ what ≤ 1 := by
      by_cases z : 0 ≤ what ∧ what ≤ 1
      · exact z
      · rw [ha, if_neg z] at y
        exact absurd rfl y
    refine B_X12_mean_13 hK (k := ?_)
    refine s_within hpa (by decide) (by decide) (fun b hb => ?_)
    refine B_X12_mean_20 hK (n20 := by rw [hb]; split <;> decide) (kt := fun y => ?_) (kf := fun y => ?_)
    · refine B_X12_mean_27 hK (k := tl 0 ?_)
      unfold meaB
      rw [if_neg]
      intro z
      rw [hb, if_pos z.2] at y
      exact absurd y (by decide)
    · refine B_X12_mean_23 hK (k := tl 1 ?_)
      unfold meaB
      rw [if_pos]
      refine ⟨g1, ?_⟩
      by_cases z : 0 ≤ part ∧ part ≤ 1
      · exact z
      · rw [hb, if_neg z] at y
        exact absurd rfl y
