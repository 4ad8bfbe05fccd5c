/-! the class answers: mean, which -/
theorem rKc.sol {sh : oS} {I J : Nat → Nat → Int} {L : Nat → Nat → Int64} {Q : oQ} (hs : Sh sh) {b hn ht m p n : Nat} {a : Int} (R : RelX sh J b hn ht a) (e : rfE I J) (hp : (p : Int) < I 44 14) (hm : (m : Int) < I 44 8) (h0 : I 44 0 ≠ 0) (hn1 : (n : Int) ≤ vOn I m) (kp : kpt I J m p n)
    (k : ∀ J2, FrY J J2 → RelX sh J2 b hn ht a → kpt I J2 m p (n + 1) → Q (some (vI ((16 * p + 4 * m + n : Nat) : Int))) (sh, J2, L)) : T_X11_solved [vR 0, vI (p : Int), vI (m : Int), vI (n : Int)] (sh, J, L) Q := by
  refine r_solved hs R (by rw [e.at (by omega)]; exact hp) (by rw [e.at (by omega)]; exact hm) (by rw [e.at (by omega)]; exact h0) (by rw [e.on]; omega) (fun J2 F2 R2 q2 v r => ?_)
  rw [Int.toNat_natCast] at v r ⊢
  rw [e.ev, e.at (a := 47) (by omega)] at v
  exact k J2 F2 R2 (kp.s q2 v r)
set_option maxHeartbeats 1000000 in
theorem c_mean {sh : oS} {I : Nat → Nat → Int} {L : Nat → Nat → Int64} {Q : oQ} (hs : Sh sh) {b : Nat} {a plan march what part : Int} (R : Rel sh I b a) (hp : inR plan) (hm : inR march) (hw : inR what) (hpa : inR part) (k : ∀ J, Rel sh J b a → rfE I J → Q (some (vI (meaV I plan march what part))) (sh, J, L)) : T_X11_mean [vR 0, vI plan, vI march, vI what, vI part] (sh, I, L) Q := by
  refine And.intro (Nat.le_of_ble_eq_true rfl) (fun K hK => ?_)
  obtain ⟨hn, ht, R⟩ := R
  unfold meaV at k
  rw [ask_if] at k
  unfold meaB at k
  rw [one_if] at k
  refine B_X11_mean_0 hK hs (k := ?_)
  refine s_refusal hs R hp hm (fun r hr hz => ?_)
  have rb := bar1 (I := I) (plan := plan) (march := march)
  rw [← hr] at rb k
  refine B_X11_mean_6 hK (n10 := by omega) (kt := fun z => ?_) (kf := fun z => ?_)
  rotate_left
  · rw [if_neg z] at k
    exact B_X11_mean_13 hK (k := k I ⟨hn, ht, R⟩ rfl)
  obtain ⟨p, m, e1, e2, hpl, hml, h0⟩ := hz z
  subst e1 e2
  rw [if_pos z] at k
  have out : ¬ ((0 ≤ what ∧ what ≤ 1) ∧ 0 ≤ part ∧ part ≤ 1) → K 36 [none, none, none, none, none, none, none, none, none, none] [] (sh, I, L) (0, 0) := fun y => by
    rw [if_neg y] at k
    exact B_X11_mean_36 hK (k := k I ⟨hn, ht, R⟩ rfl)
  refine B_X11_mean_16 hK (n17 := hw) (kt := fun y => out (by omega)) (kf := fun y => ?_)
  refine B_X11_mean_20 hK (n22a := hw) (kt := fun y2 => out (by omega)) (kf := fun y2 => ?_)
  refine B_X11_mean_25 hK (n27 := hpa) (kt := fun y3 => out (by omega)) (kf := fun y3 => ?_)
  refine B_X11_mean_30 hK (n33a := hpa) (kt := fun y4 => ?_) (kf := fun y4 => out (by omega))
  rw [if_pos (show (0 ≤ what ∧ what ≤ 1) ∧ 0 ≤ part ∧ part ≤ 1 by omega), Int.toNat_natCast, Int.toNat_natCast] at k
  have ok := R.1.1
  have o10 := R.1.1.2.2.2.2.2.2.2.2.2.1
  have o8 := R.1.1.2.2.2.2.2.2.2.1
  have om := R.1.1.2.2.2.2.2.2.2.2.1 m hml
  have on := vOn_bd om.2.1
  obtain ⟨h, s9, mr, -⟩ := R.2.2.2.1.2 m hml
  have hh := mr.1.2
  have tm : (m : Int).toNat = m := Int.toNat_natCast m
  have ev : fShl 1 (I h 1) - 1 = vOn I m := by rw [mr.2.2.2.1]; rfl
  have lp : ∀ (d w : Nat) (J : Nat → Nat → Int), (w : Int) + d = vOn I m + 1 → FrY I J → RelX sh J b hn ht a → kpt I J m p w → K 50 [some (vR 0), some (vI (p : Int)), some (vI (m : Int)), some (vI what), some (vI part), none, some (vR h), some (vI (w : Int)), none, none] [] (sh, J, L) (0, 0) := by
    intro d
    induction d with
    | zero =>
      intro w J hd F RJ kp
      refine B_X11_mean_50 hK (Ah6 := mr.1.1) (k := ?_)
      refine s_wayOn mr.1 ?_
      rw [F h 1 (by simp <;> omega) (by simp <;> omega), ev]
      refine B_X11_mean_57 hK (n57a := by omega) (n57b := by omega) (kt := fun _ => ?_) (kf := fun y => absurd (by omega) y)
      have mrJ : mRel sh J m h := mr.eq F.rf (fun x k h1 h2 => F x k (by simp <;> omega) (by simp <;> omega))
      refine B_X11_mean_75 hK hs (k := ?_)
      refine s_weighed hs s9 mrJ F.rf ok hml hpl hw (by rw [show (vOn I m + 1).toNat = w by omega]; exact kp) (fun bd => ?_)
      refine B_X11_mean_82 hK (Ah6 := mr.1.1) (k := ?_)
      have h1 : J h 1 = I 50 m := by rw [mrJ.2.2.2.1]; exact F.rf.at (by omega)
      refine s_allChances mr.1 (by omega) ?_
      rw [h1]
      have al : (mnS I m p).2.2 = allC (I 50 m) := mn_all _ _ (by omega)
      have kk := k J ⟨hn, ht, RJ⟩ F.rf
      rw [al] at kk
      have ab : 0 < allC (I 50 m) ∧ allC (I 50 m) ≤ 100 := by
        unfold allC
        split
        · omega
        · split <;> omega
      have sb : 0 ≤ (if what = 0 then (mnS I m p).1 else (mnS I m p).2.1) ∧ (if what = 0 then (mnS I m p).1 else (mnS I m p).2.1) ≤ 10000000 := by split <;> omega
      generalize (if what = 0 then (mnS I m p).1 else (mnS I m p).2.1) = s at kk sb ⊢
      generalize allC (I 50 m) = t at kk ab ⊢
      obtain ⟨s, rfl⟩ := Int.eq_ofNat_of_zero_le sb.1
      obtain ⟨t, rfl⟩ := Int.eq_ofNat_of_zero_le (show 0 ≤ t by omega)
      unfold lowV at kk
      rw [Int.toNat_natCast, Int.toNat_natCast] at kk
      refine B_X11_mean_89 hK (k := ?_)
      refine s_commonDivisor (by omega) (by omega) ?_
      have gp : 0 < Nat.gcd s t := Nat.gcd_pos_of_pos_right s (by omega)
      have gle : Nat.gcd s t ≤ t := Nat.gcd_le_right s (by omega)
      refine B_X11_mean_98 hK (n102 := by omega) (kt := fun _ => ?_) (kf := fun y => absurd (by omega) y)
      refine B_X11_mean_107 hK (n109 := hpa) (kt := fun y => ?_) (kf := fun y => ?_)
      · rw [if_neg y] at kk
        refine B_X11_mean_117 hK (k := B_X11_mean_119 hK (n121a := by omega) (n121b := by omega) (z121 := by omega) (k := ?_))
        rw [Int.tdiv_eq_ediv_of_nonneg (by omega)]
        exact kk
      · rw [if_pos (Classical.not_not.1 y)] at kk
        refine B_X11_mean_112 hK (k := B_X11_mean_119 hK (n121a := by omega) (n121b := by omega) (z121 := by omega) (k := ?_))
        rw [Int.tdiv_eq_ediv_of_nonneg (by omega)]
        exact kk
    | succ d ih =>
      intro w J hd F RJ kp
      refine B_X11_mean_50 hK (Ah6 := mr.1.1) (k := ?_)
      refine s_wayOn mr.1 ?_
      rw [F h 1 (by simp <;> omega) (by simp <;> omega), ev]
      refine B_X11_mean_57 hK (n57a := by omega) (n57b := by omega) (kt := fun y => absurd y (by omega)) (kf := fun _ => ?_)
      refine B_X11_mean_60 hK hs (k := ?_)
      refine rKc.sol hs RJ F.rf hpl hml h0 (by omega) kp (fun J2 F2 R2 kp2 => ?_)
      refine B_X11_mean_68 hK (k := ?_)
      exact ih (w + 1) J2 (by omega) (F.t F2) R2 kp2
  refine B_X11_mean_39 hK hs (b44 := by omega) (r44 := by rw [tm]; exact s9) (k := ?_)
  exact lp (vOn I m + 1).toNat 0 I (by omega) Fr.rf R (fun w hw => absurd hw (by omega))
theorem RelX.five {sh : oS} {I : Nat → Nat → Int} {b hn ht : Nat} (R : RelX sh I b hn ht 0) : RelX sh (u2 I 0 11 (I 0 11 + 1)) b hn ht 1 ∧ rfE I (u2 I 0 11 (I 0 11 + 1)) := by
  have e : rfE I (u2 I 0 11 (I 0 11 + 1)) := rfE.of (fun x k c => uN (by omega))
  refine ⟨R.fr e (R.2.2.2.2.2.1.eq e (fun x => ⟨uN (by omega), uN (by omega), uN (by omega)⟩)) ?_ (fun x k h1 h2 h3 _ _ _ => uF (by omega)), e⟩
  rw [uA, uN (by omega)]
  have := R.2.2.2.2.2.2.1.2
  omega
set_option maxHeartbeats 1000000 in
theorem c_which {sh : oS} {I : Nat → Nat → Int} {L : Nat → Nat → Int64} {Q : oQ} (hs : Sh sh) {b : Nat} {march : Int} (R : Rel sh I b 0) (hm : inR march) (k : ∀ J, Rel sh J b (whiA I march - I 44 21) → rfE I J → Q (some (vI (whiV I march))) (sh, J, L)) : T_X11_which [vR 0, vI march] (sh, I, L) Q := by
  refine And.intro (Nat.le_of_ble_eq_true rfl) (fun K hK => ?_)
  obtain ⟨hn, ht, R⟩ := R
  have ok := R.1.1
  have o0 := ok.1
  have o10 := R.1.1.2.2.2.2.2.2.2.2.2.1
  have o8 := R.1.1.2.2.2.2.2.2.2.1
  have o21 := R.1.2.2.1
  have e11 := R.2.2.2.2.2.2.1.2
  have e30 := R.2.2.1.1
  have e9 := R.2.2.2.2.1.1
  unfold whiV whiA at k
  have idn : ∀ {X : Prop} [Decidable X], ¬ X → Rel sh I b ((if X then I 44 21 + 1 else I 44 21) - I 44 21) := fun hx => by
    rw [if_neg hx, Int.sub_self]
    exact ⟨hn, ht, R⟩
  refine B_X11_which_0 hK hs (k := ?_)
  refine s_marchOf hs R hm (fun m h em hml s9 mr => ?_) (fun z => ?_)
  rotate_left
  · refine B_X11_which_5n hK (k := B_X11_which_10 hK (k := ?_))
    have kk := k I (idn (fun t => z t.1)) rfl
    rw [if_pos z] at kk
    exact kk
  subst em
  have gm : 0 ≤ (m : Int) ∧ (m : Int) < I 44 8 := by omega
  have gm2 : ¬ ¬ (0 ≤ (m : Int) ∧ (m : Int) < I 44 8) := fun t => t gm
  rw [if_neg gm2, Int.toNat_natCast] at k
  refine B_X11_which_5 hK (k := ?_)
  have out : (I 44 0 = 0 ∨ I 44 21 = 30) → K 32 [none, none, none, none, none, none, none, none, none] [] (sh, I, L) (0, 0) := fun t => by
    have kk := k I (idn (fun u => t.elim u.2.1 u.2.2)) rfl
    rw [if_pos t] at kk
    exact B_X11_which_32 hK (k := kk)
  refine B_X11_which_13 hK hs (n20 := by omega) (kt := fun z => out (by omega)) (kf := fun z => ?_)
  refine B_X11_which_23 hK hs (n29a := by omega) (kt := fun z2 => ?_) (kf := fun z2 => out (by omega))
  have h0 : I 44 0 ≠ 0 := by omega
  rw [if_neg (show ¬ (I 44 0 = 0 ∨ I 44 21 = 30) by omega), if_pos (show (0 ≤ (m : Int) ∧ (m : Int) < I 44 8) ∧ I 44 0 ≠ 0 ∧ I 44 21 ≠ 30 by omega), show I 44 21 + 1 - I 44 21 = 1 by omega] at k
  refine B_X11_which_35 hK hs (k := ?_)
  obtain ⟨R1, E1⟩ := R.five
  have FA : ∀ x y, ¬ (x = 0 ∧ y = 11) → u2 I 0 11 (I 0 11 + 1) x y = I x y := fun x y h => uF (by omega)
  generalize u2 I 0 11 (I 0 11 + 1) = J0 at R1 E1 FA
  have om := ok.2.2.2.2.2.2.2.2.1 m hml
  have on := vOn_bd om.2.1
  have hh := mr.1.2
  have tm : (m : Int).toNat = m := Int.toNat_natCast m
  have ev : fShl 1 (I h 1) - 1 = vOn I m := by rw [mr.2.2.2.1]; rfl
  generalize hg : whS I m = g at k
  have lp : ∀ (n y : Nat) (J : Nat → Nat → Int), (y : Int) + n = I 44 14 → FrY J0 J → RelX sh J b hn ht 1 → (-1 ≤ (whF g y).1 ∧ (whF g y).1 ≤ 8) → inR (whF g y).2.1 → inR (whF g y).2.2 → K 56 [some (vR 0), some (vI (m : Int)), some (vR h), some (vI (whF g y).1), some (vI (whF g y).2.1), some (vI (whF g y).2.2), some (vI (y : Int)), none, none] [] (sh, J, L) (0, 0) := by
    intro n
    induction n with
    | zero =>
      intro y J hy F RJ c1 c2 c3
      have e09 : J 0 9 = I 44 14 := by rw [F 0 9 (by simp) (by simp), FA 0 9 (by omega), e9]
      refine B_X11_which_56 hK hs (n62a := by omega) (n62b := by omega) (kt := fun _ => ?_) (kf := fun t => absurd (by omega) t)
      rw [show (I 44 14).toNat = y by omega] at k
      exact B_X11_which_156 hK (k := k J ⟨hn, ht, RJ⟩ (E1.t F.rf))
    | succ n ih =>
      intro y J hy F RJ c1 c2 c3
      have e09 : J 0 9 = I 44 14 := by rw [F 0 9 (by simp) (by simp), FA 0 9 (by omega), e9]
      refine B_X11_which_56 hK hs (n62a := by omega) (n62b := by omega) (kt := fun t => absurd t (by omega)) (kf := fun _ => ?_)
      refine B_X11_which_65 hK (k := ?_)
      have inn : ∀ (d w : Nat) (J : Nat → Nat → Int), (w : Int) + d = vOn I m + 1 → FrY J0 J → RelX sh J b hn ht 1 → kpt I J m y w → K 68 [some (vR 0), some (vI (m : Int)), some (vR h), some (vI (whF g y).1), some (vI (whF g y).2.1), some (vI (whF g y).2.2), some (vI (y : Int)), some (vI (w : Int)), none] [] (sh, J, L) (0, 0) := by
        intro d
        induction d with
        | zero =>
          intro w J hd F RJ kp
          refine B_X11_which_68 hK (Ah2 := mr.1.1) (k := ?_)
          refine s_wayOn mr.1 ?_
          rw [F h 1 (by simp <;> omega) (by simp <;> omega), FA h 1 (by omega), ev]
          refine B_X11_which_74 hK (n74a := by omega) (n74b := by omega) (kt := fun _ => ?_) (kf := fun t => absurd (by omega) t)
          have mrJ : mRel sh J m h := mr.eq (E1.t F.rf) (fun x k h1 h2 => by rw [F x k (by simp <;> omega) (by simp <;> omega)]; exact FA x k (by omega))
          have kpw : kpt I J m y (vOn I m + 1).toNat := by rw [show (vOn I m + 1).toNat = w by omega]; exact kp
          refine B_X11_which_93 hK hs (k := ?_)
          refine s_weighed hs s9 mrJ (E1.t F.rf) ok hml (by omega) (by decide) kpw (fun bd => ?_)
          rw [if_pos rfl]
          refine B_X11_which_101 hK hs (k := ?_)
          refine s_weighed hs s9 mrJ (E1.t F.rf) ok hml (by omega) (by decide) kpw (fun _ => ?_)
          rw [if_neg (by decide)]
          have eg : g y = ((mnS I m y).1, (mnS I m y).2.1) := by rw [← hg]; rfl
          have nx := ih (y + 1) J (by omega) F RJ
          have i1 : inR (mnS I m y).1 := by omega
          have i2 : inR (mnS I m y).2.1 := by omega
          generalize (mnS I m y).1 = s at eg i1 ⊢
          generalize (mnS I m y).2.1 = t at eg i2 ⊢
          have up : ((whF g y).1 = -1 ∨ (g y).1 < (whF g y).2.1 ∨ ((g y).1 = (whF g y).2.1 ∧ (g y).2 < (whF g y).2.2)) → K 139 [some (vR 0), some (vI (m : Int)), some (vR h), none, none, none, some (vI (y : Int)), some (vI s), some (vI t)] [] (sh, J, L) (0, 0) := fun u => by
            have bq : whF g (y + 1) = ((y : Int), s, t) := by
              show (if _ then _ else _) = _
              rw [if_pos u, eg]
            rw [bq] at nx
            exact B_X11_which_139 hK (k := B_X11_which_150 hK (k := nx (by show -1 ≤ (y : Int) ∧ (y : Int) ≤ 8; omega) i1 i2))
          have st : ¬ ((whF g y).1 = -1 ∨ (g y).1 < (whF g y).2.1 ∨ ((g y).1 = (whF g y).2.1 ∧ (g y).2 < (whF g y).2.2)) → K 150 [some (vR 0), some (vI (m : Int)), some (vR h), some (vI (whF g y).1), some (vI (whF g y).2.1), some (vI (whF g y).2.2), some (vI (y : Int)), none, none] [] (sh, J, L) (0, 0) := fun u => by
            have bq : whF g (y + 1) = whF g y := by
              show (if _ then _ else _) = _
              rw [if_neg u]
            rw [bq] at nx
            exact B_X11_which_150 hK (k := nx c1 c2 c3)
          rw [eg] at up st
          refine B_X11_which_111 hK (n115a := by omega) (kt := fun u => up (Or.inl u)) (kf := fun u1 => ?_)
          refine B_X11_which_118 hK (n122a := i1) (n122b := c2) (kt := fun u => up (Or.inr (Or.inl u))) (kf := fun u2 => ?_)
          refine B_X11_which_125 hK (n129a := i1) (n129b := c2) (kt := fun u3 => st (fun v => v.elim u1 (fun v => v.elim u2 (fun v => u3 v.1)))) (kf := fun u3 => ?_)
          refine B_X11_which_132 hK (n136a := i2) (n136b := c3) (kt := fun u4 => st (fun v => v.elim u1 (fun v => v.elim u2 (fun v => by have := v.2; dsimp only at this; omega)))) (kf := fun u4 => up (Or.inr (Or.inr ⟨Classical.not_not.1 u3, by dsimp only; omega⟩)))
        | succ d ihd =>
          intro w J hd F RJ kp
          refine B_X11_which_68 hK (Ah2 := mr.1.1) (k := ?_)
          refine s_wayOn mr.1 ?_
          rw [F h 1 (by simp <;> omega) (by simp <;> omega), FA h 1 (by omega), ev]
          refine B_X11_which_74 hK (n74a := by omega) (n74b := by omega) (kt := fun t => absurd t (by omega)) (kf := fun _ => ?_)
          refine B_X11_which_77 hK hs (k := ?_)
          refine rKc.sol hs RJ (E1.t F.rf) (by omega) hml h0 (by omega) kp (fun J2 F2 R2 kp2 => ?_)
          refine B_X11_which_86 hK (k := ?_)
          exact ihd (w + 1) J2 (by omega) (F.t F2) R2 kp2
      exact inn (vOn I m + 1).toNat 0 J (by omega) F RJ (fun w hw => absurd hw (by omega))
  exact lp (I 44 14).toNat 0 J0 (by omega) Fr.rf R1 (show (-1 : Int) ≤ -1 ∧ (-1 : Int) ≤ 8 by decide) (show inR 0 by decide) (show inR 0 by decide)
