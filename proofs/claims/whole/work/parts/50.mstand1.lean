/-! one stand -/
def staA (what : Int) : Int := if what = 0 ∨ (11 ≤ what ∧ what ≤ 123) ∧ 1 ≤ what.tmod 10 ∧ what.tmod 10 ≤ 3 then 1 else 0
noncomputable def staL (l : List stT) (what : Int) : Int := if what = 0 then (l.length : Int) else if what.tdiv 10 - 1 < (l.length : Int) then (if what.tmod 10 = 1 then (stG l (what.tdiv 10 - 1).toNat).1 else if what.tmod 10 = 2 then (stG l (what.tdiv 10 - 1).toNat).2.1 else (stG l (what.tdiv 10 - 1).toNat).2.2) else -1
noncomputable def staV (I : Nat → Nat → Int) (plan march what : Int) : Int := if barV I plan march (-1) (staA what) = 0 then staL (srt (pRaw I march.toNat plan.toNat 0)) what else barV I plan march (-1) (staA what)
theorem s_mstand {sh : oS} {I : Nat → Nat → Int} {L : Nat → Nat → Int64} {Q : oQ} (hs : Sh sh) {plan march what : Int} (h : mOK I) (hp : inR plan) (hm : inR march) (hw : inR what)
    (k : ∀ J, Fr [65, 66, 67, 68, 69, 70, 71, 72, 73, 74, 75, 76] [(44, 38), (44, 39), (44, 43), (44, 47), (44, 54), (44, 55), (44, 56), (44, 57), (44, 58)] I J → Q (some (vI (staV I plan march what))) (sh, J, L)) : T_X12_stand [vR 44, vI plan, vI march, vI what] (sh, I, L) Q := by
  refine And.intro (Nat.le_of_ble_eq_true rfl) (fun K hK => ?_)
  unfold staV at k
  have md : what.tmod 10 < 10 ∧ -10 < what.tmod 10 := ⟨Int.tmod_lt_of_pos what (by decide), by
    have := Int.lt_tmod_of_pos what (b := 10) (by decide)
    omega⟩
  have tl : ∀ a, a = staA what → K 36 [some (vR 44), none, none, some (vI what), none, none] [vI a, vI (-1), vI march, vI plan, vR 44] (sh, I, L) (0, 0) := fun a ha => by
    refine B_X12_stand_36 hK hs (k := ?_)
    refine s_barsN hs h hp hm (by rw [ha]; unfold staA; split <;> decide) (fun r J F hr ri hz => ?_)
    rw [← ha, ← hr] at k
    refine B_X12_stand_39 hK (n43 := ri) (kt := fun zr => ?_) (kf := fun zr => ?_)
    · have az : a ≠ 0 := fun e => by
        rw [zr] at hr
        unfold barV at hr
        rw [e] at hr
        by_cases y1 : ¬ ((0 ≤ plan ∧ plan < I 44 14) ∧ 0 ≤ march ∧ march < I 44 8)
        · rw [if_pos y1] at hr
          exact absurd hr (by decide)
        · rw [if_neg y1] at hr
          by_cases y2 : I 44 0 = 0
          · rw [if_pos y2] at hr
            exact absurd hr (by decide)
          · rw [if_neg y2, if_pos (Or.inr rfl)] at hr
            exact absurd hr (by decide)
      have aw : what = 0 ∨ (11 ≤ what ∧ what ≤ 123) ∧ 1 ≤ what.tmod 10 ∧ what.tmod 10 ≤ 3 := by
        by_cases y : what = 0 ∨ (11 ≤ what ∧ what ≤ 123) ∧ 1 ≤ what.tmod 10 ∧ what.tmod 10 ≤ 3
        · exact y
        · unfold staA at ha
          rw [if_neg y] at ha
          exact absurd ha az
      obtain ⟨p, m, e1, e2, F', ⟨g1, g2, g3⟩, ld, l, ml, pl, wl⟩ := hz zr
      subst e1 e2
      rw [if_pos zr, Int.toNat_natCast, Int.toNat_natCast, srt_is pl wl] at k
      have rok := h.raw (more := 0) g1 g2 g3 (by decide)
      have ll : l.length ≤ 40 := by rw [← pl.length_eq]; exact rok.2
      unfold staL at k
      have hk := k J F
      refine B_X12_stand_49 hK (n52a := hw) (kt := fun y => ?_) (kf := fun y => ?_)
      · rw [if_pos y, ← ml.1] at hk
        refine B_X12_stand_70 hK (n71 := hw) (kt := fun x => absurd y x) (kf := fun _ => ?_)
        exact B_X12_stand_74 hK hs (k := B_X12_stand_82 hK (k := hk))
      · rw [if_neg y] at hk
        have a2 := aw.resolve_left y
        have dv : what.tdiv 10 = what / 10 := Int.tdiv_eq_ediv_of_nonneg (by omega)
        rw [dv] at hk ⊢
        refine B_X12_stand_61 hK hs (n67a := by omega) (n67b := by rw [ml.1]; omega) (kt := fun x => ?_) (kf := fun x => ?_)
        · rw [ml.1] at x
          rw [if_pos x] at hk
          have v := ml.2 (what / 10 - 1).toNat (by omega)
          refine B_X12_stand_83 hK (n86a := hw) (n88a := by omega) (kt := fun u => ?_) (kf := fun u => ?_)
          · rw [if_neg u] at hk
            refine B_X12_stand_101 hK (n104a := hw) (n106a := by omega) (kt := fun t => ?_) (kf := fun t => ?_)
            · rw [if_neg t, ← v.2.2] at hk
              exact B_X12_stand_119 hK hs (b125 := by omega) (k := B_X12_stand_126 hK (k := hk))
            · rw [if_pos (Classical.not_not.1 t), ← v.2.1] at hk
              exact B_X12_stand_109 hK hs (b115 := by omega) (k := B_X12_stand_126 hK (k := hk))
          · rw [if_pos (Classical.not_not.1 u), ← v.1] at hk
            exact B_X12_stand_91 hK hs (b97 := by omega) (k := B_X12_stand_126 hK (k := hk))
        · rw [ml.1] at x
          rw [if_neg x] at hk
          refine B_X12_stand_70 hK (n71 := hw) (kt := fun _ => ?_) (kf := fun t => absurd y t)
          exact B_X12_stand_81 hK (k := B_X12_stand_82 hK (k := hk))
    · rw [if_neg zr] at k
      exact B_X12_stand_46 hK (k := k J F)
  have yes : (what = 0 ∨ (11 ≤ what ∧ what ≤ 123) ∧ 1 ≤ what.tmod 10 ∧ what.tmod 10 ≤ 3) → K 31 [some (vR 44), none, none, some (vI what), none, none] [vI (-1), vI march, vI plan, vR 44] (sh, I, L) (0, 0) := fun y => B_X12_stand_31 hK (k := tl 1 (by unfold staA; rw [if_pos y]))
  have no : ¬ (what = 0 ∨ (11 ≤ what ∧ what ≤ 123) ∧ 1 ≤ what.tmod 10 ∧ what.tmod 10 ≤ 3) → K 35 [some (vR 44), none, none, some (vI what), none, none] [vI (-1), vI march, vI plan, vR 44] (sh, I, L) (0, 0) := fun y => B_X12_stand_35 hK (k := tl 0 (by unfold staA; rw [if_neg y]))
  refine B_X12_stand_0 hK (n5 := hw) (kt := fun y => yes (Or.inl y)) (kf := fun y => ?_)
  refine B_X12_stand_8 hK (k := ?_)
  refine s_within hw (by decide) (by decide) (fun r hr => ?_)
  by_cases z : 11 ≤ what ∧ what ≤ 123
  · rw [if_pos z] at hr
    refine B_X12_stand_16 hK (n16 := by omega) (kt := fun x => absurd x (by omega)) (kf := fun _ => ?_)
    refine B_X12_stand_19 hK (n22a := hw) (k := ?_)
    refine s_within (by omega) (by decide) (by decide) (fun r2 hr2 => ?_)
    by_cases z2 : 1 ≤ what.tmod 10 ∧ what.tmod 10 ≤ 3
    · rw [if_pos z2] at hr2
      exact B_X12_stand_28 hK (n28 := by omega) (kt := fun x => absurd x (by omega)) (kf := fun _ => yes (Or.inr ⟨z, z2⟩))
    · rw [if_neg z2] at hr2
      exact B_X12_stand_28 hK (n28 := by omega) (kt := fun _ => no (fun t => t.elim y (fun t => z2 t.2))) (kf := fun x => absurd hr2 x)
  · rw [if_neg z] at hr
    exact B_X12_stand_16 hK (n16 := by omega) (kt := fun _ => no (fun t => t.elim y (fun t => z t.1))) (kf := fun x => absurd hr x)
