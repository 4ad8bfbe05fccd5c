/-! the class answers: hungry, carried, worst -/
theorem c_hungry {sh : oS} {I : Nat → Nat → Int} {L : Nat → Nat → Int64} {Q : oQ} (hs : Sh sh) {b : Nat} {a plan march way : Int} (R : Rel sh I b a) (hp : inR plan) (hm : inR march) (hw : inR way) (k : ∀ J, Rel sh J b a → rfE I J → Q (some (vI (hunV I plan march way))) (sh, J, L)) : T_X11_hungry [vR 0, vI plan, vI march, vI way] (sh, I, L) Q := by
  refine And.intro (Nat.le_of_ble_eq_true rfl) (fun K hK => ?_)
  obtain ⟨hn, ht, R⟩ := R
  refine B_X11_hungry_0 hK hs (k := ?_)
  refine s_wayRef hs R hp hm hw (fun r hr hz => ?_)
  have ri : inR r := by rw [hr]; exact barW_in
  unfold hunV at k
  rw [← hr] at k
  refine B_X11_hungry_7 hK (n11 := ri) (kt := fun z => ?_) (kf := fun z => ?_)
  · obtain ⟨p, m, e1, e2, hpl, hml, h0, hw2⟩ := hz z
    subst e1 e2
    rw [if_pos z, Int.toNat_natCast, Int.toNat_natCast] at k
    refine B_X11_hungry_19 hK hs (k := ?_)
    refine r_solved hs R hpl hml h0 hw2 (fun J F RJ _ v r => ?_)
    have o10 := R.1.1.2.2.2.2.2.2.2.2.2.1
    have o8 := R.1.1.2.2.2.2.2.2.2.1
    have on := vOn_bd (R.1.1.2.2.2.2.2.2.2.2.1 m hml).2.1
    refine B_X11_hungry_30 hK hs (b30 := by omega) (k := ?_)
    rw [Int.toNat_natCast]
    refine B_X11_hungry_31 hK (k := ?_)
    have := k J ⟨hn, ht, RJ⟩ F.rf
    rw [← v] at this
    exact this
  · rw [if_neg z] at k
    exact B_X11_hungry_14 hK (k := B_X11_hungry_31 hK (k := k I ⟨hn, ht, R⟩ rfl))
theorem c_carried {sh : oS} {I : Nat → Nat → Int} {L : Nat → Nat → Int64} {Q : oQ} (hs : Sh sh) {b : Nat} {a plan march way : Int} (R : Rel sh I b a) (hp : inR plan) (hm : inR march) (hw : inR way) (k : ∀ J, Rel sh J b a → rfE I J → Q (some (vI (carV I plan march way))) (sh, J, L)) : T_X11_carried [vR 0, vI plan, vI march, vI way] (sh, I, L) Q := by
  refine And.intro (Nat.le_of_ble_eq_true rfl) (fun K hK => ?_)
  obtain ⟨hn, ht, R⟩ := R
  refine B_X11_carried_0 hK hs (k := ?_)
  refine s_wayRef hs R hp hm hw (fun r hr hz => ?_)
  have ri : inR r := by rw [hr]; exact barW_in
  unfold carV at k
  rw [← hr] at k
  refine B_X11_carried_7 hK (n11 := ri) (kt := fun z => ?_) (kf := fun z => ?_)
  · obtain ⟨p, m, e1, e2, hpl, hml, h0, hw2⟩ := hz z
    subst e1 e2
    rw [if_pos z, Int.toNat_natCast, Int.toNat_natCast] at k
    refine B_X11_carried_19 hK hs (k := ?_)
    refine r_solved hs R hpl hml h0 hw2 (fun J F RJ _ v r => ?_)
    have o10 := R.1.1.2.2.2.2.2.2.2.2.2.1
    have o8 := R.1.1.2.2.2.2.2.2.2.1
    have on := vOn_bd (R.1.1.2.2.2.2.2.2.2.2.1 m hml).2.1
    refine B_X11_carried_30 hK hs (b30 := by omega) (k := ?_)
    rw [Int.toNat_natCast]
    refine B_X11_carried_31 hK (k := ?_)
    have := k J ⟨hn, ht, RJ⟩ F.rf
    rw [← v] at this
    exact this
  · rw [if_neg z] at k
    exact B_X11_carried_14 hK (k := B_X11_carried_31 hK (k := k I ⟨hn, ht, R⟩ rfl))
theorem ask_if {I : Nat → Nat → Int} {plan march a X : Int} : (if barV I plan march (-1) a = 0 then X else barV I plan march (-1) a) = if barV I plan march (-1) 1 = 0 then (if a = 0 then -102 else X) else barV I plan march (-1) 1 := by
  rw [bar_a]
  by_cases z : barV I plan march (-1) 1 = 0
  · rw [if_pos z, if_pos z]
    by_cases y : a = 0
    · rw [if_pos y, if_pos y, if_neg (by decide)]
    · rw [if_neg y, if_neg y, if_pos rfl]
  · rw [if_neg z, if_neg z, if_neg z]
theorem one_if {c : Prop} [Decidable c] {X Y : Int} : (if (if c then (1 : Int) else 0) = 0 then X else Y) = if c then Y else X := by
  by_cases z : c
  · rw [if_pos z, if_pos z, if_neg (by decide)]
  · rw [if_neg z, if_neg z, if_pos rfl]
set_option maxHeartbeats 1000000 in
theorem c_worst {sh : oS} {I : Nat → Nat → Int} {L : Nat → Nat → Int64} {Q : oQ} (hs : Sh sh) {b : Nat} {a plan march what : Int} (R : Rel sh I b a) (hp : inR plan) (hm : inR march) (hw : inR what) (k : ∀ J, Rel sh J b a → rfE I J → Q (some (vI (worV I plan march what))) (sh, J, L)) : T_X11_worst [vR 0, vI plan, vI march, vI what] (sh, I, L) Q := by
  refine And.intro (Nat.le_of_ble_eq_true rfl) (fun K hK => ?_)
  obtain ⟨hn, ht, R⟩ := R
  unfold worV at k
  rw [ask_if, one_if] at k
  refine B_X11_worst_0 hK hs (k := ?_)
  refine s_refusal hs R hp hm (fun r hr hz => ?_)
  have rb := bar1 (I := I) (plan := plan) (march := march)
  rw [← hr] at rb k
  refine B_X11_worst_6 hK (n10 := by omega) (kt := fun z => ?_) (kf := fun z => ?_)
  rotate_left
  · rw [if_neg z] at k
    exact B_X11_worst_13 hK (k := k I ⟨hn, ht, R⟩ rfl)
  obtain ⟨p, m, e1, e2, hpl, hml, h0⟩ := hz z
  subst e1 e2
  rw [if_pos z] at k
  have out : ¬ (0 ≤ what ∧ what ≤ 1) → K 25 [none, none, none, none, none, none, none, none, none] [] (sh, I, L) (0, 0) := fun y => by
    rw [if_neg y] at k
    exact B_X11_worst_25 hK (k := k I ⟨hn, ht, R⟩ rfl)
  refine B_X11_worst_16 hK (n17 := hw) (kt := fun y => out (by omega)) (kf := fun y => ?_)
  refine B_X11_worst_20 hK (n22a := hw) (kt := fun y2 => ?_) (kf := fun y2 => out (by omega))
  rw [if_pos (show 0 ≤ what ∧ what ≤ 1 by omega), Int.toNat_natCast, Int.toNat_natCast] at k
  have o10 := R.1.1.2.2.2.2.2.2.2.2.2.1
  have o8 := R.1.1.2.2.2.2.2.2.2.1
  have om := R.1.1.2.2.2.2.2.2.2.2.1 m hml
  have on := vOn_bd om.2.1
  obtain ⟨h, s9, mr, -⟩ := R.2.2.2.1.2 m hml
  have hh := mr.1.2
  have tm : (m : Int).toNat = m := Int.toNat_natCast m
  generalize hg : (fun w : Nat => (pEv I m p 0 (w : Int) (I 47 m - 1) 0).1) = g at k
  have gw : ∀ w : Nat, g w = (pEv I m p 0 (w : Int) (I 47 m - 1) 0).1 := fun w => by rw [← hg]
  have ev : fShl 1 (I h 1) - 1 = vOn I m := by rw [mr.2.2.2.1]; rfl
  have lp : ∀ (d w : Nat) (J : Nat → Nat → Int), (w : Int) + d = vOn I m + 1 → 1 ≤ w → FrY I J → RelX sh J b hn ht a → (0 ≤ (wsF g w).2 ∧ (wsF g w).2 ≤ 990) → K 48 [some (vR 0), some (vI (p : Int)), some (vI (m : Int)), some (vI what), none, some (vI (wsF g w).1), some (vI (wsF g w).2), some (vI (w : Int)), none] [] (sh, J, L) (0, 0) := by
    intro d
    induction d with
    | zero =>
      intro w J hd hw1 F RJ wb
      refine B_X11_worst_48 hK hs (b55 := by omega) (r55 := by rw [tm]; exact s9) (Aq55 := mr.1.1) (k := ?_)
      refine s_wayOn mr.1 ?_
      rw [F h 1 (by simp <;> omega) (by simp <;> omega), ev]
      refine B_X11_worst_59 hK (n59a := by omega) (n59b := by omega) (kt := fun _ => ?_) (kf := fun y => absurd (by omega) y)
      have kk := k J ⟨hn, ht, RJ⟩ F.rf
      rw [show (vOn I m + 1).toNat = w by omega] at kk
      refine B_X11_worst_98 hK (n99 := hw) (kt := fun y => ?_) (kf := fun y => ?_)
      · rw [if_neg y] at kk
        exact B_X11_worst_107 hK (k := B_X11_worst_109 hK (k := kk))
      · rw [if_pos (Classical.not_not.1 y)] at kk
        exact B_X11_worst_102 hK (k := B_X11_worst_109 hK (k := kk))
    | succ d ih =>
      intro w J hd hw1 F RJ wb
      refine B_X11_worst_48 hK hs (b55 := by omega) (r55 := by rw [tm]; exact s9) (Aq55 := mr.1.1) (k := ?_)
      refine s_wayOn mr.1 ?_
      rw [F h 1 (by simp <;> omega) (by simp <;> omega), ev]
      refine B_X11_worst_59 hK (n59a := by omega) (n59b := by omega) (kt := fun y => absurd y (by omega)) (kf := fun _ => ?_)
      refine B_X11_worst_62 hK hs (k := ?_)
      have e := F.rf
      refine r_solved hs RJ (by rw [e.at (by omega)]; exact hpl) (by rw [e.at (by omega)]; exact hml) (by rw [e.at (by omega)]; exact h0) (by rw [e.on]; omega) (fun J2 F2 R2 _ v r2 => ?_)
      rw [Int.toNat_natCast] at v r2 ⊢
      have vw : J2 41 (16 * p + 4 * m + w) = g w := by
        rw [gw, ← e.ev, ← e.at (I := I) (J := J) (a := 47) (k := m) (by omega)]
        exact congrArg Prod.fst v
      have F02 := F.t F2
      have ws : wsF g (w + 1) = if g w ≤ (wsF g w).2 then wsF g w else ((w : Int), g w) := rfl
      refine B_X11_worst_74 hK hs (b74 := by omega) (n81a := by rw [Int.toNat_natCast]; omega) (n81b := by omega) (kt := fun y => ?_) (kf := fun y => ?_)
      · rw [Int.toNat_natCast, vw] at y
        refine B_X11_worst_92 hK (k := ?_)
        have := ih (w + 1) J2 (by omega) (by omega) F02 R2 (by rw [ws, if_pos y]; exact wb)
        rw [ws, if_pos y] at this
        exact this
      · rw [Int.toNat_natCast, vw] at y ⊢
        refine B_X11_worst_84 hK (k := ?_)
        refine B_X11_worst_92 hK (k := ?_)
        have := ih (w + 1) J2 (by omega) (by omega) F02 R2 (by rw [ws, if_neg y]; dsimp only; rw [← vw]; exact r2.1)
        rw [ws, if_neg y] at this
        exact this
  refine B_X11_worst_28 hK hs (k := ?_)
  refine r_solved hs R hpl hml h0 (by omega) (fun J F RJ _ v r => ?_)
  refine B_X11_worst_42 hK hs (b42 := by omega) (k := ?_)
  rw [Int.toNat_natCast]
  have v0 : J 41 (16 * p + 4 * m + (0 : Int).toNat) = g 0 := by rw [gw]; exact congrArg Prod.fst v
  rw [v0]
  rw [v0] at r
  have w1 : wsF g 1 = (0, g 0) := by
    show (if g 0 ≤ (-1 : Int) then _ else _) = _
    rw [if_neg (by omega)]
    rfl
  have := lp (vOn I m).toNat 1 J (by omega) (Nat.le_refl _) F RJ (by rw [w1]; exact r.1)
  rw [w1] at this
  exact this
