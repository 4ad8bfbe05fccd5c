/-! the class answers: stand, bakes -/
theorem s_bakingAt {sh : oS} {I : Nat → Nat → Int} {L : Nat → Nat → Int64} {Q : oQ} (hs : Sh sh) {l : List stT} {P D p d bd : Int} (hl : cLs I l) (hn : l.length ≤ 30) (ho : stOK P D l) (hP : P ≤ 8) (hD : D ≤ 10) (hp : inR p) (hd : inR d) (hbd : 0 ≤ bd ∧ bd ≤ 1000) (k : Q (some (vI (bkL l p d bd))) (sh, I, L)) : T_X9_bakingAt [vR 25, vI p, vI d, vI bd] (sh, I, L) Q := by
  refine And.intro (Nat.le_of_ble_eq_true rfl) (fun K hK => ?_)
  refine B_X9_bakingAt_0 hK (k := ?_)
  have e := hl.1
  have lp : ∀ (r i : Nat), i + r = l.length → K 6 [some (vR 25), some (vI p), some (vI d), some (vI bd), some (vI (sm i (fun i => if (stG l i).1 = p ∧ (stG l i).2.1 - 0 + bd ≤ d ∧ d ≤ (stG l i).2.2 then 1 else 0))), some (vI (i : Int))] [] (sh, I, L) (0, 0) := by
    intro r
    induction r with
    | zero =>
      intro i hi
      refine B_X9_bakingAt_6 hK hs (n12a := by omega) (n12b := by omega) (kt := fun _ => ?_) (kf := fun z => absurd (by omega) z)
      rw [show i = l.length by omega]
      exact B_X9_bakingAt_59 hK (k := k)
    | succ r ih =>
      intro i hi
      obtain ⟨a1, a2, a3⟩ := hl.2 i (by omega)
      have ok := ho _ (stG_m (show i < l.length by omega))
      have t0 : (i : Int).toNat = i := Int.toNat_natCast i
      refine B_X9_bakingAt_6 hK hs (n12a := by omega) (n12b := by omega) (kt := fun z => absurd z (by omega)) (kf := fun _ => ?_)
      have no : ¬ ((stG l i).1 = p ∧ (stG l i).2.1 - 0 + bd ≤ d ∧ d ≤ (stG l i).2.2) → K 53 [some (vR 25), some (vI p), some (vI d), some (vI bd), some (vI (sm i (fun i => if (stG l i).1 = p ∧ (stG l i).2.1 - 0 + bd ≤ d ∧ d ≤ (stG l i).2.2 then 1 else 0))), some (vI (i : Int))] [] (sh, I, L) (0, 0) := fun z => by
        refine B_X9_bakingAt_53 hK (k := ?_)
        have := ih (i + 1) (by omega)
        simp only [sm] at this
        rw [if_neg z, Int.add_zero] at this
        exact this
      refine B_X9_bakingAt_15 hK hs (b21 := by omega) (n23a := by rw [t0, a1]; omega) (n23b := hp) (kt := fun z => no (fun y => z (by rw [t0, a1]; exact y.1))) (kf := fun z => ?_)
      rw [t0, a1] at z
      refine B_X9_bakingAt_26 hK hs (b32 := by omega) (n36a := by rw [t0, a2]; omega) (n36b := hd) (kt := fun z2 => no (fun y => by rw [t0, a2] at z2; omega)) (kf := fun z2 => ?_)
      rw [t0, a2] at z2
      refine B_X9_bakingAt_39 hK hs (b46 := by omega) (n47a := hd) (n47b := by rw [t0, a3]; omega) (kt := fun z3 => no (fun y => by rw [t0, a3] at z3; omega)) (kf := fun z3 => ?_)
      rw [t0, a3] at z3
      refine B_X9_bakingAt_50 hK (k := ?_)
      refine B_X9_bakingAt_53 hK (k := ?_)
      have := ih (i + 1) (by omega)
      simp only [sm] at this
      rw [if_pos ⟨Classical.not_not.1 z, by omega, by omega⟩] at this
      exact this
  exact lp l.length 0 (by omega)
theorem c_bakes {sh : oS} {I : Nat → Nat → Int} {L : Nat → Nat → Int64} {Q : oQ} (hs : Sh sh) {b : Nat} {a plan march place day : Int} (R : Rel sh I b a) (hp : inR plan) (hm : inR march) (hpl : inR place) (hd : inR day) (k : ∀ J, Rel sh J b a → rfE I J → Q (some (vI (bakV I plan march place day))) (sh, J, L)) : T_X11_bakes [vR 0, vI plan, vI march, vI place, vI day] (sh, I, L) Q := by
  refine And.intro (Nat.le_of_ble_eq_true rfl) (fun K hK => ?_)
  obtain ⟨hn, ht, R⟩ := R
  have ok := R.1.1
  unfold bakV at k
  refine B_X11_bakes_0 hK hs (k := ?_)
  refine s_refusal hs R hp hm (fun r hr hz => ?_)
  have rb := bar1 (I := I) (plan := plan) (march := march)
  rw [← hr] at rb k
  refine B_X11_bakes_6 hK (n10 := by omega) (kt := fun z => ?_) (kf := fun z => ?_)
  rotate_left
  · have nb : ¬ (((0 ≤ plan ∧ plan < I 44 14) ∧ (0 ≤ march ∧ march < I 44 8) ∧ 0 < I 44 0) ∧ ¬ ((0 ≤ place ∧ place < I 44 0) ∧ 0 ≤ day ∧ day ≤ I 47 march.toNat - 1)) := fun y => by
      apply z
      rw [hr]
      unfold barV
      rw [if_neg (fun w => w ⟨y.1.1, y.1.2.1⟩), if_neg (by have := y.1.2.2; omega), if_neg (by omega)]
    rw [if_neg nb, if_neg z] at k
    exact B_X11_bakes_13 hK (k := k I ⟨hn, ht, R⟩ rfl)
  obtain ⟨p, m, e1, e2, hpp, hml, h0⟩ := hz z
  clear hz
  subst e1 e2
  rw [Int.toNat_natCast, Int.toNat_natCast] at k
  have o0 := ok.1
  have o8 := ok.2.2.2.2.2.2.2.1
  have om := ok.2.2.2.2.2.2.2.2.1 m hml
  obtain ⟨h, s9, mr, -⟩ := R.2.2.2.1.2 m hml
  have e30 := R.2.2.1.1
  have eh := mr.2.2.1
  have out : ¬ ((0 ≤ place ∧ place < I 44 0) ∧ 0 ≤ day ∧ day ≤ I 47 m - 1) → K 46 [none, none, none, none, none, none] [] (sh, I, L) (0, 0) := fun y => by
    rw [if_pos ⟨⟨by omega, by omega, by omega⟩, y⟩] at k
    exact B_X11_bakes_46 hK (k := k I ⟨hn, ht, R⟩ rfl)
  refine B_X11_bakes_16 hK hs (k := ?_)
  refine s_has (landT hs) hpl (by omega) (fun r2 hr2 => ?_)
  refine B_X11_bakes_24 hK (n24 := by omega) (kt := fun y => out (by omega)) (kf := fun y => ?_)
  refine B_X11_bakes_27 hK (n29 := hd) (kt := fun y2 => out (by omega)) (kf := fun y2 => ?_)
  refine B_X11_bakes_32 hK hs (b39 := by omega) (r39 := by rw [Int.toNat_natCast]; exact s9) (Aq39 := mr.1.1) (n43a := hd) (n43b := by omega) (kt := fun y3 => ?_) (kf := fun y3 => out (by omega))
  rw [if_neg (fun w => w.2 ⟨by omega, by omega, by omega⟩), if_pos z] at k
  refine B_X11_bakes_49 hK hs (k := ?_)
  refine r_pitch hs R hpp hml h0 (fun J F kJ q c => ?_)
  obtain ⟨l2, cl, cp, cw⟩ := c
  have rok := ok.raw (more := 0) hpp hml h0 (by decide)
  have l30 := ok.r30 (more := 0) hpp hml h0 ⟨by decide, by have := (ok.2.2.2.2.2.2.2.2.2.2 p hpp).1; omega⟩
  have e34 : J 3 4 = I 44 4 := by rw [F 3 4 (by simp) (by simp)]; exact R.2.2.1.2.2.1
  have e33 : J 3 3 = I 44 3 := by rw [F 3 3 (by simp) (by simp)]; exact R.2.2.1.2.1
  refine B_X11_bakes_55 hK hs (k := ?_)
  rw [e34]
  refine s_bakingAt hs cl (by rw [cp.length_eq]; exact l30) (rok.1.pm cp.symm) (by omega) (by omega) hpl hd (by have := ok.2.2.1; omega) ?_
  refine B_X11_bakes_75 hK hs (k := ?_)
  rw [e33, bkL_pm cp]
  exact k J ⟨hn, ht, R.y F kJ⟩ F.rf
set_option maxHeartbeats 1000000 in
theorem c_stand {sh : oS} {I : Nat → Nat → Int} {L : Nat → Nat → Int64} {Q : oQ} (hs : Sh sh) {b : Nat} {a plan march what : Int} (R : Rel sh I b a) (hp : inR plan) (hm : inR march) (hw : inR what) (k : ∀ J, Rel sh J b a → rfE I J → Q (some (vI (staV I plan march what))) (sh, J, L)) : T_X11_stand [vR 0, vI plan, vI march, vI what] (sh, I, L) Q := by
  refine And.intro (Nat.le_of_ble_eq_true rfl) (fun K hK => ?_)
  obtain ⟨hn, ht, R⟩ := R
  have ok := R.1.1
  unfold staV at k
  rw [ask_if] at k
  unfold staA at k
  rw [one_if] at k
  refine B_X11_stand_0 hK hs (k := ?_)
  refine s_refusal hs R hp hm (fun r hr hz => ?_)
  have rb := bar1 (I := I) (plan := plan) (march := march)
  rw [← hr] at rb k
  refine B_X11_stand_6 hK (n10 := by omega) (kt := fun z => ?_) (kf := fun z => ?_)
  rotate_left
  · rw [if_neg z] at k
    exact B_X11_stand_13 hK (k := k I ⟨hn, ht, R⟩ rfl)
  obtain ⟨p, m, e1, e2, hpp, hml, h0⟩ := hz z
  clear hz
  subst e1 e2
  rw [if_pos z, Int.toNat_natCast, Int.toNat_natCast] at k
  have tb : 0 ≤ what → 0 ≤ what.tmod 10 ∧ what.tmod 10 ≤ 9 := fun h => by
    rw [Int.tmod_eq_emod_of_nonneg h]
    omega
  have out : ¬ (what = 0 ∨ (11 ≤ what ∧ what ≤ 123) ∧ 1 ≤ what.tmod 10 ∧ what.tmod 10 ≤ 3) → K 50 [none, none, none, none, none, none, none, none] [] (sh, I, L) (0, 0) := fun y => by
    rw [if_neg y] at k
    exact B_X11_stand_50 hK (k := k I ⟨hn, ht, R⟩ rfl)
  have go : (what = 0 ∨ (11 ≤ what ∧ what ≤ 123) ∧ 1 ≤ what.tmod 10 ∧ what.tmod 10 ≤ 3) → K 53 [some (vR 0), some (vI (p : Int)), some (vI (m : Int)), some (vI what), none, some (vI (what.tmod 10)), none, none] [] (sh, I, L) (0, 0) := fun y => by
    rw [if_pos y] at k
    refine B_X11_stand_53 hK hs (k := ?_)
    refine r_pitch hs R hpp hml h0 (fun J F kJ q c => ?_)
    obtain ⟨l2, cl, cp, cw⟩ := c
    have l30 := ok.r30 (more := 0) hpp hml h0 ⟨by decide, by have := (ok.2.2.2.2.2.2.2.2.2.2 p hpp).1; omega⟩
    have len : l2.length ≤ 30 := by rw [cp.length_eq]; exact l30
    have kk := k J ⟨hn, ht, R.y F kJ⟩ F.rf
    rw [srt_is cp.symm cw] at kk
    unfold staL at kk
    have e := cl.1
    refine B_X11_stand_59 hK hs (n69 := hw) (kt := fun y2 => ?_) (kf := fun y2 => ?_)
    · rw [if_neg y2] at kk
      have td : what.tdiv 10 = what / 10 := Int.tdiv_eq_ediv_of_nonneg (by omega)
      refine B_X11_stand_78 hK hs (n81a := hw) (n93a := by rw [td]; omega) (n93b := by omega) (kt := fun y3 => ?_) (kf := fun y3 => ?_)
      · rw [if_pos (by omega)] at kk
        have at2 := cl.2 (what.tdiv 10 - 1).toNat (by rw [td] at y3 ⊢; omega)
        refine B_X11_stand_98 hK (n101a := by have := tb (by omega); omega) (kt := fun y4 => ?_) (kf := fun y4 => ?_)
        · rw [if_neg y4] at kk
          refine B_X11_stand_115 hK (n118a := by have := tb (by omega); omega) (kt := fun y5 => ?_) (kf := fun y5 => ?_)
          · rw [if_neg y5] at kk
            refine B_X11_stand_132 hK hs (b139 := by rw [td] at y3 ⊢; omega) (k := B_X11_stand_140 hK (k := ?_))
            rw [at2.2.2]; exact kk
          · rw [if_pos (Classical.not_not.1 y5)] at kk
            refine B_X11_stand_121 hK hs (b128 := by rw [td] at y3 ⊢; omega) (k := B_X11_stand_140 hK (k := ?_))
            rw [at2.2.1]; exact kk
        · rw [if_pos (Classical.not_not.1 y4)] at kk
          refine B_X11_stand_104 hK hs (b111 := by rw [td] at y3 ⊢; omega) (k := B_X11_stand_140 hK (k := ?_))
          rw [at2.1]; exact kk
      · rw [if_neg (by omega)] at kk
        exact B_X11_stand_96 hK (k := kk)
    · rw [if_pos (Classical.not_not.1 y2)] at kk
      refine B_X11_stand_72 hK hs (k := ?_)
      rw [e]; exact kk
  refine B_X11_stand_16 hK (n19a := hw) (kt := fun y => go (Or.inl y)) (kf := fun y => ?_)
  refine B_X11_stand_26 hK (n29a := hw) (kt := fun y2 => out (by omega)) (kf := fun y2 => ?_)
  refine B_X11_stand_32 hK (n35a := hw) (kt := fun y3 => out (by omega)) (kf := fun y3 => ?_)
  refine B_X11_stand_38 hK (n41a := by have := tb (by omega); omega) (kt := fun y4 => out (by omega)) (kf := fun y4 => ?_)
  refine B_X11_stand_44 hK (n47a := by have := tb (by omega); omega) (kt := fun y5 => go (Or.inr ⟨by omega, by omega⟩)) (kf := fun y5 => out (by omega))
