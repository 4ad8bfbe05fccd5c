/-! questions of the reference: lack, worst -/
/-- the first day at which too many are hungry -/
noncomputable def lkF (b : Int) (h : Nat → Int) : Nat → Nat → Int
  | 0, _ => -1
  | q + 1, d => if h d ≤ b then lkF b h q (d + 1) else d
noncomputable def lakV (I : Nat → Nat → Int) (plan march way : Int) : Int := if barW I plan march way = 0 then lkF (I 44 6) (fun d => (pEv I march.toNat plan.toNat 0 way d 0).1) (I 47 march.toNat).toNat 0 else barW I plan march way
theorem s_mlack {sh : oS} {I : Nat → Nat → Int} {L : Nat → Nat → Int64} {Q : oQ} (hs : Sh sh) {plan march way : Int} (h : mOK I) (hp : inR plan) (hm : inR march) (hw : inR way)
    (k : ∀ J, Fr [65, 66, 67, 68, 69, 70, 71, 72, 73, 74, 75, 76] [(44, 38), (44, 39), (44, 43), (44, 47), (44, 54), (44, 55), (44, 56), (44, 57), (44, 58)] I J → Q (some (vI (lakV I plan march way))) (sh, J, L)) : T_X12_lack [vR 44, vI plan, vI march, vI way] (sh, I, L) Q := by
  refine And.intro (Nat.le_of_ble_eq_true rfl) (fun K hK => ?_)
  refine B_X12_lack_0 hK hs (k := ?_)
  refine s_barsWay hs h hp hm hw (fun r J F hr hz => ?_)
  have ri : inR r := by rw [hr]; exact barW_in
  unfold lakV at k
  rw [← hr] at k
  refine B_X12_lack_7 hK (n11 := ri) (kt := fun z => ?_) (kf := fun z => ?_)
  · obtain ⟨p, m, e1, e2, e3, q⟩ := hz z
    subst e1 e2
    rw [if_pos z, Int.toNat_natCast, Int.toNat_natCast] at k
    have hm' := h.2.2.2.2.2.2.2.2.1 m q.2.1.2.1
    have h6 := h.2.2.2.2.1
    have lp : ∀ (q d : Nat) (J : Nat → Nat → Int), (d : Int) + q = I 47 m → mQ I J m p 0 → (∀ J2, Fr [65, 66, 67, 68, 69, 70, 71, 72, 73, 74, 75, 76] [(44, 38), (44, 39), (44, 43), (44, 47), (44, 54), (44, 55), (44, 56), (44, 57), (44, 58)] I J2 → Q (some (vI (lkF (I 44 6) (fun d => (pEv I m p 0 way d 0).1) q d))) (sh, J2, L)) → K 20 [some (vR 44), none, none, some (vI way), none, some (vI d)] [] (sh, J, L) (0, 0) := by
      intro q
      induction q with
      | zero =>
        intro d J hd qJ kk
        have e := qJ.2.2.1.1
        refine B_X12_lack_20 hK hs (n26a := by omega) (n26b := by omega) (kt := fun _ => ?_) (kf := fun z => absurd (by omega) z)
        exact B_X12_lack_57 hK (k := kk J qJ.1)
      | succ q ih =>
        intro d J hd qJ kk
        have e := qJ.2.2.1.1
        refine B_X12_lack_20 hK hs (n26a := by omega) (n26b := by omega) (kt := fun z => absurd z (by omega)) (kf := fun _ => ?_)
        refine B_X12_lack_29 hK hs (k := ?_)
        refine s_flowQ hs h qJ (by decide) (by omega) (by decide) (fun J2 q2 v2 r1 r2 => ?_)
        have b6 : J2 44 6 = I 44 6 := q2.1 44 6 (by decide) (by decide)
        have w : J2 44 54 = (pEv I m p 0 way d 0).1 := by rw [← v2]
        unfold lkF at kk
        refine B_X12_lack_37 hK hs (n45a := r1) (n45b := by omega) (kt := fun y => ?_) (kf := fun y => ?_)
        · rw [b6, w] at y
          rw [if_pos y] at kk
          refine B_X12_lack_51 hK (k := ?_)
          exact ih (d + 1) J2 (by omega) q2 kk
        · rw [b6, w] at y
          rw [if_neg y] at kk
          exact B_X12_lack_48 hK (k := kk J2 q2.1)
    refine B_X12_lack_17 hK (k := ?_)
    exact lp (I 47 m).toNat 0 J (by omega) q k
  · rw [if_neg z] at k
    exact B_X12_lack_14 hK (k := k J F)
