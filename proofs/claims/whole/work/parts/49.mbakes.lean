/-! questions of the reference about stands -/
noncomputable def srt (l : List stT) : List stT := Classical.epsilon (fun l2 : List stT => l.Perm l2 ∧ l2.Pairwise nAh)
theorem srt_is {l l2 : List stT} (h1 : l.Perm l2) (h2 : l2.Pairwise nAh) : srt l = l2 := by
  have g : l.Perm (srt l) ∧ (srt l).Pairwise nAh := Classical.epsilon_spec (p := fun l2 : List stT => l.Perm l2 ∧ l2.Pairwise nAh) ⟨l2, h1, h2⟩
  exact srt_un (g.1.symm.trans h1) g.2 h2
def bkL (l : List stT) (p d bd : Int) : Int := sm l.length (fun i => if (stG l i).1 = p ∧ (stG l i).2.1 - 0 + bd ≤ d ∧ d ≤ (stG l i).2.2 then 1 else 0)
theorem bkL_pm {l m : List stT} (h : l.Perm m) (p d bd : Int) : bkL l p d bd = bkL m p d bd := sm_pm (fun s => if s.1 = p ∧ s.2.1 - 0 + bd ≤ d ∧ d ≤ s.2.2 then 1 else 0) h
noncomputable def bakV (I : Nat → Nat → Int) (plan march place day : Int) : Int := if ((0 ≤ plan ∧ plan < I 44 14) ∧ (0 ≤ march ∧ march < I 44 8) ∧ 0 < I 44 0) ∧ ¬ ((0 ≤ place ∧ place < I 44 0) ∧ 0 ≤ day ∧ day ≤ I 47 march.toNat - 1) then -101 else if barV I plan march (-1) 1 = 0 then bkL (pRaw I march.toNat plan.toNat 0) place day (I 44 4) * I 44 3 else barV I plan march (-1) 1
theorem s_mbakes {sh : oS} {I : Nat → Nat → Int} {L : Nat → Nat → Int64} {Q : oQ} (hs : Sh sh) {plan march place day : Int} (h : mOK I) (hp : inR plan) (hm : inR march) (hpl : inR place) (hd : inR day)
    (k : ∀ J, Fr [65, 66, 67, 68, 69, 70, 71, 72, 73, 74, 75, 76] [(44, 38), (44, 39), (44, 43), (44, 47), (44, 54), (44, 55), (44, 56), (44, 57), (44, 58)] I J → Q (some (vI (bakV I plan march place day))) (sh, J, L)) : T_X12_bakes [vR 44, vI plan, vI march, vI place, vI day] (sh, I, L) Q := by
  refine And.intro (Nat.le_of_ble_eq_true rfl) (fun K hK => ?_)
  obtain ⟨h1, h2, h3, h4, h5, h6, h7, h8, h9, h10, h11⟩ := id h
  unfold bakV at k
  have unk : ((0 ≤ plan ∧ plan < I 44 14) ∧ (0 ≤ march ∧ march < I 44 8) ∧ 0 < I 44 0) ∧ ¬ ((0 ≤ place ∧ place < I 44 0) ∧ 0 ≤ day ∧ day ≤ I 47 march.toNat - 1) → K 48 [none, none, none, none, none, none] [] (sh, I, L) (0, 0) := fun z => by
    rw [if_pos z] at k
    exact B_X12_bakes_48 hK (k := k I Fr.rf)
  have tl : ¬ (((0 ≤ plan ∧ plan < I 44 14) ∧ (0 ≤ march ∧ march < I 44 8) ∧ 0 < I 44 0) ∧ ¬ ((0 ≤ place ∧ place < I 44 0) ∧ 0 ≤ day ∧ day ≤ I 47 march.toNat - 1)) → K 51 [some (vR 44), some (vI plan), some (vI march), some (vI place), some (vI day), none] [] (sh, I, L) (0, 0) := fun z => by
    rw [if_neg z] at k
    refine B_X12_bakes_51 hK hs (k := ?_)
    refine s_barsN hs h hp hm (by decide) (fun r J F hr ri hz => ?_)
    rw [← hr] at k
    refine B_X12_bakes_59 hK (n63 := ri) (kt := fun zr => ?_) (kf := fun zr => ?_)
    · obtain ⟨p, m, e1, e2, F', ⟨g1, g2, g3⟩, ld, l, ml, pl, wl⟩ := hz zr
      subst e1 e2
      rw [if_pos zr, Int.toNat_natCast, Int.toNat_natCast, bkL_pm pl] at k
      have rok := h.raw (more := 0) g1 g2 g3 (by decide)
      have lo := rok.1.pm pl
      have hm' := h9 m g2
      have e3 : J 44 3 = I 44 3 := F 44 3 (by decide) (by decide)
      have e4 : J 44 4 = I 44 4 := F 44 4 (by decide) (by decide)
      refine B_X12_bakes_71 hK hs (k := ?_)
      refine s_bakesAt hs ml.1 (by rw [← pl.length_eq]; exact rok.2) hpl hd (by decide) (by omega) (fun i hi => ?_) (fun r2 hr2 => ?_)
      · have a := ml.2 i hi
        have b := lo _ (stG_m hi)
        rw [a.1, a.2.1, a.2.2]
        omega
      · have e : r2 = bkL l place day (I 44 4) * I 44 3 := by
          rw [hr2, e3, e4]
          unfold bkc bkL
          rw [sm_congr (fun i hi => by rw [(ml.2 i hi).1, (ml.2 i hi).2.1, (ml.2 i hi).2.2])]
        rw [e]
        exact B_X12_bakes_79 hK (k := k J F)
    · rw [if_neg zr] at k
      exact B_X12_bakes_66 hK (k := B_X12_bakes_79 hK (k := k J F))
  refine B_X12_bakes_0 hK hs (k := ?_)
  refine s_isPlan hs hp (by omega) (fun r hr => ?_)
  refine B_X12_bakes_5 hK (n5 := by rw [hr]; split <;> decide) (kt := fun z => tl (fun y => ?_)) (kf := fun z => ?_)
  · rw [hr, if_pos y.1.1] at z
    exact absurd z (by decide)
  have gp : 0 ≤ plan ∧ plan < I 44 14 := by
    by_cases y : 0 ≤ plan ∧ plan < I 44 14
    · exact y
    · rw [hr, if_neg y] at z
      exact absurd rfl z
  refine B_X12_bakes_8 hK hs (k := ?_)
  refine s_isMarch hs hm (by omega) (fun r2 hr2 => ?_)
  refine B_X12_bakes_13 hK (n13 := by rw [hr2]; split <;> decide) (kt := fun z => tl (fun y => ?_)) (kf := fun z2 => ?_)
  · rw [hr2, if_pos y.1.2.1] at z
    exact absurd z (by decide)
  have gm : 0 ≤ march ∧ march < I 44 8 := by
    by_cases y : 0 ≤ march ∧ march < I 44 8
    · exact y
    · rw [hr2, if_neg y] at z2
      exact absurd rfl z2
  refine B_X12_bakes_16 hK hs (n20 := by omega) (kt := fun z => tl (fun y => absurd y.1.2.2 (by omega))) (kf := fun z3 => ?_)
  refine B_X12_bakes_23 hK hs (k := ?_)
  refine s_isPlace hs hpl (by omega) (fun r3 hr3 => ?_)
  refine B_X12_bakes_28 hK (n28 := by rw [hr3]; split <;> decide) (kt := fun z => unk ⟨⟨gp, gm, by omega⟩, fun y => ?_⟩) (kf := fun z4 => ?_)
  · rw [hr3, if_pos y.1] at z
    exact absurd z (by decide)
  have gl : 0 ≤ place ∧ place < I 44 0 := by
    by_cases y : 0 ≤ place ∧ place < I 44 0
    · exact y
    · rw [hr3, if_neg y] at z4
      exact absurd rfl z4
  refine B_X12_bakes_31 hK hs (b39 := by omega) (k := ?_)
  have hm' := h9 march.toNat (by omega)
  refine s_within hd (by decide) (by omega) (fun r4 hr4 => ?_)
  refine B_X12_bakes_45 hK (n45 := by rw [hr4]; split <;> decide) (kt := fun z5 => tl (fun y => y.2 ⟨gl, ?_⟩)) (kf := fun z5 => unk ⟨⟨gp, gm, by omega⟩, fun y => ?_⟩)
  · by_cases u : 0 ≤ day ∧ day ≤ I 47 march.toNat - 1
    · exact u
    · rw [hr4, if_neg u] at z5
      exact absurd rfl z5
  · rw [hr4, if_pos y.2] at z5
    exact absurd z5 (by decide)
