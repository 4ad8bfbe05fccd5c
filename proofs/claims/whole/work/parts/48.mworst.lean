/-! questions of the reference that ask for no way: worst -/
theorem barV_in {I : Nat → Nat → Int} {plan march way a : Int} : inR (barV I plan march way a) := by
  unfold barV
  split
  · decide
  · split
    · decide
    · split <;> decide
theorem s_barsN {sh : oS} {I : Nat → Nat → Int} {L : Nat → Nat → Int64} {Q : oQ} (hs : Sh sh) {plan march a : Int} (h : mOK I) (hp : inR plan) (hm : inR march) (ha : inR a)
    (k : ∀ r J, Fr [65, 66, 67, 68, 69, 70, 71, 72, 73, 74, 75, 76] [(44, 38), (44, 39), (44, 43), (44, 47), (44, 54), (44, 55), (44, 56), (44, 57), (44, 58)] I J → r = barV I plan march (-1) a → inR r → (r = 0 → ∃ (p m : Nat), plan = (p : Int) ∧ march = (m : Int) ∧ mQ I J m p 0) → Q (some (vI r)) (sh, J, L)) : T_X12_bars [vR 44, vI plan, vI march, vI (-1), vI a] (sh, I, L) Q := by
  refine s_bars hs h hp hm (by decide) ha (fun r J F hr hz => k r J F hr (by rw [hr]; exact barV_in) (fun z => ?_))
  obtain ⟨p, m, l, e1, e2, g1, g2, g3, ld, ml, pl, wl⟩ := hz z
  exact ⟨p, m, e1, e2, F, ⟨g1, g2, g3⟩, ld, l, ml, pl, wl⟩
/-- the way on which most are hungry, the first such; and how many -/
noncomputable def wsF (h : Nat → Int) : Nat → Int × Int
  | 0 => (-1, -1)
  | w + 1 => if h w ≤ (wsF h w).2 then wsF h w else ((w : Int), h w)
noncomputable def worV (I : Nat → Nat → Int) (plan march what : Int) : Int := if barV I plan march (-1) (if 0 ≤ what ∧ what ≤ 1 then 1 else 0) = 0 then (if what = 0 then (wsF (fun w => (pEv I march.toNat plan.toNat 0 w (I 47 march.toNat - 1) 0).1) (vOn I march.toNat + 1).toNat).1 else (wsF (fun w => (pEv I march.toNat plan.toNat 0 w (I 47 march.toNat - 1) 0).1) (vOn I march.toNat + 1).toNat).2) else barV I plan march (-1) (if 0 ≤ what ∧ what ≤ 1 then 1 else 0)
theorem s_mworst {sh : oS} {I : Nat → Nat → Int} {L : Nat → Nat → Int64} {Q : oQ} (hs : Sh sh) {plan march what : Int} (h : mOK I) (hp : inR plan) (hm : inR march) (hw : inR what)
    (k : ∀ J, Fr [65, 66, 67, 68, 69, 70, 71, 72, 73, 74, 75, 76] [(44, 38), (44, 39), (44, 43), (44, 47), (44, 54), (44, 55), (44, 56), (44, 57), (44, 58)] I J → Q (some (vI (worV I plan march what))) (sh, J, L)) : T_X12_worst [vR 44, vI plan, vI march, vI what] (sh, I, L) Q := by
  refine And.intro (Nat.le_of_ble_eq_true rfl) (fun K hK => ?_)
  refine B_X12_worst_0 hK (k := ?_)
  refine s_within hw (by decide) (by decide) (fun a ha => ?_)
  refine B_X12_worst_10 hK hs (k := ?_)
  refine s_barsN hs h hp hm (by rw [ha]; split <;> decide) (fun r J F hr ri hz => ?_)
  unfold worV at k
  rw [← ha, ← hr] at k
  refine B_X12_worst_13 hK (n17 := ri) (kt := fun z => ?_) (kf := fun z => ?_)
  · obtain ⟨p, m, e1, e2, q⟩ := hz z
    subst e1 e2
    rw [if_pos z, Int.toNat_natCast, Int.toNat_natCast] at k
    have hm' := h.2.2.2.2.2.2.2.2.1 m q.2.1.2.1
    have on := vOn_bd hm'.2.1
    generalize hE : (fun w : Nat => (pEv I m p 0 (w : Int) (I 47 m - 1) 0).1) = E at k
    have lp : ∀ (q w : Nat) (J : Nat → Nat → Int), (w : Int) + q = vOn I m + 1 → mQ I J m p 0 → inR (wsF E w).2 → K 32 [some (vR 44), none, none, some (vI what), none, some (vI (wsF E w).1), some (vI (wsF E w).2), some (vI w)] [] (sh, J, L) (0, 0) := by
      intro q
      induction q with
      | zero =>
        intro w J hd qJ hin
        refine B_X12_worst_32 hK hs (k := ?_)
        refine s_allOn hs ?_
        have eo : fShl 1 (J 44 39) - 1 = vOn I m := by rw [qJ.2.2.1.2.1]; rfl
        rw [eo]
        refine B_X12_worst_38 hK (n38a := by omega) (n38b := by omega) (kt := fun _ => ?_) (kf := fun z => absurd (by omega) z)
        have ew : (vOn I m + 1).toNat = w := by omega
        rw [ew] at k
        refine B_X12_worst_98 hK (n99 := hw) (kt := fun y => ?_) (kf := fun y => ?_)
        · rw [if_neg y] at k
          exact B_X12_worst_107 hK (k := B_X12_worst_109 hK (k := k J qJ.1))
        · rw [if_pos (Classical.not_not.1 y)] at k
          exact B_X12_worst_102 hK (k := B_X12_worst_109 hK (k := k J qJ.1))
      | succ q ih =>
        intro w J hd qJ hin
        refine B_X12_worst_32 hK hs (k := ?_)
        refine s_allOn hs ?_
        have eo : fShl 1 (J 44 39) - 1 = vOn I m := by rw [qJ.2.2.1.2.1]; rfl
        rw [eo]
        refine B_X12_worst_38 hK (n38a := by omega) (n38b := by omega) (kt := fun z => absurd z (by omega)) (kf := fun _ => ?_)
        refine B_X12_worst_41 hK hs (k := ?_)
        rw [qJ.2.2.1.1]
        refine s_flowQ hs h qJ (by decide) (by omega) (by decide) (fun J2 q2 v2 r1 r2 => ?_)
        have e54 : J2 44 54 = E w := by rw [← hE]; show J2 44 54 = (pEv I m p 0 (w : Int) (I 47 m - 1) 0).1; rw [← v2]
        have g := ih (w + 1) J2 (by omega) q2
        unfold wsF at g
        rw [e54] at r1
        refine B_X12_worst_54 hK hs (n60a := by rw [e54]; exact r1) (n60b := hin) (kt := fun y => ?_) (kf := fun y => ?_)
        · rw [e54] at y
          rw [if_pos y] at g
          refine B_X12_worst_68 hK (k := ?_)
          refine B_X12_worst_70 hK hs (n78a := by rw [e54]; exact r1) (n78b := hin) (kt := fun _ => ?_) (kf := fun x => absurd (by rw [e54]; exact y) x)
          exact B_X12_worst_88 hK (k := B_X12_worst_90 hK (k := g hin))
        · rw [e54] at y
          rw [if_neg y] at g
          refine B_X12_worst_63 hK (k := ?_)
          refine B_X12_worst_70 hK hs (n78a := by rw [e54]; exact r1) (n78b := hin) (kt := fun x => absurd (by rw [e54] at x; exact x) y) (kf := fun _ => ?_)
          refine B_X12_worst_81 hK hs (k := B_X12_worst_90 hK (k := ?_))
          rw [e54]
          exact g r1
    refine B_X12_worst_23 hK (k := ?_)
    exact lp (vOn I m + 1).toNat 0 J (by omega) q (show inR (-1) by decide)
  · rw [if_neg z] at k
    exact B_X12_worst_20 hK (k := k J F)
