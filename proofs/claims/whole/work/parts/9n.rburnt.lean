/-! the class answers: burnt -/
noncomputable def bqF (g : Nat → Int) : Nat → Int × Int
  | 0 => (1, 0)
  | n + 1 => if (bqF g n).2 < g (n + 1) then (((n + 1 : Nat) : Int), g (n + 1)) else bqF g n
theorem bqF_bd {g : Nat → Int} (hg : ∀ x, 0 ≤ g x) : ∀ y : Nat, 0 ≤ (bqF g y).2 ∧ 1 ≤ (bqF g y).1
  | 0 => ⟨Int.le_refl _, Int.le_refl _⟩
  | y + 1 => by
    unfold bqF
    split
    · exact ⟨hg _, by dsimp only; omega⟩
    · exact bqF_bd hg y
theorem bqF_is {g : Nat → Int} (hg : ∀ x, 0 ≤ g x) : ∀ y : Nat, buF g (y + 1) = bqF g (y + 1)
  | 0 => by
    have g1 := hg 1
    show (if (-1 : Int) = -1 ∨ (0 : Int) < g 1 then (((0 + 1 : Nat) : Int), g (0 + 1)) else (-1, 0)) = (if (0 : Int) < g 1 then (((0 + 1 : Nat) : Int), g (0 + 1)) else (1, 0))
    rw [if_pos (Or.inl rfl)]
    split
    · rfl
    · have e : g (0 + 1) = 0 := by show g 1 = 0; omega
      rw [e]
      rfl
  | y + 1 => by
    have ih := bqF_is hg y
    have bd := bqF_bd hg (y + 1)
    rw [buF, bqF, ih]
    by_cases z : (bqF g (y + 1)).2 < g (y + 1 + 1)
    · rw [if_pos (Or.inr z), if_pos z]
    · rw [if_neg (fun u => u.elim (by omega) z), if_neg z]
set_option maxHeartbeats 2000000 in
theorem c_burnt {sh : oS} {I : Nat → Nat → Int} {L : Nat → Nat → Int64} {Q : oQ} (hs : Sh sh) {b : Nat} {plan march what : Int} (R : Rel sh I b 0) (hp : inR plan) (hm : inR march) (hw : inR what) (k : ∀ J, Rel sh J b (askA I (burB I plan march what) - I 44 21) → rfE I J → Q (some (vI (burV I plan march what))) (sh, J, L)) : T_X11_burnt [vR 0, vI plan, vI march, vI what] (sh, I, L) Q := by
  refine And.intro (Nat.le_of_ble_eq_true rfl) (fun K hK => ?_)
  obtain ⟨hn, ht, R⟩ := R
  have ok := R.1.1
  have o10 := R.1.1.2.2.2.2.2.2.2.2.2.1
  have o8 := R.1.1.2.2.2.2.2.2.2.1
  have o21 := R.1.2.2.1
  have e11 := R.2.2.2.2.2.2.1.2
  have mb : burB I plan march what = if barV I plan march (-1) 1 = 0 then (if 0 ≤ what ∧ what ≤ 1 then 0 else -102) else barV I plan march (-1) 1 := bar_w
  unfold burV askA at k
  have idn : ∀ {X : Prop} [Decidable X], ¬ X → Rel sh I b ((if X then I 44 21 + 1 else I 44 21) - I 44 21) := fun hx => by
    rw [if_neg hx, Int.sub_self]
    exact ⟨hn, ht, R⟩
  refine B_X11_burnt_0 hK hs (k := ?_)
  refine s_refusal hs R hp hm (fun r hr hz => ?_)
  have rb := bar1 (I := I) (plan := plan) (march := march)
  rw [← hr] at rb mb
  refine B_X11_burnt_6 hK (n10 := by omega) (kt := fun z => ?_) (kf := fun z => ?_)
  rotate_left
  · rw [if_neg z] at mb
    rw [mb] at k
    have kk := k I (idn (fun u => z u.1)) rfl
    rw [if_neg z] at kk
    exact B_X11_burnt_13 hK (k := kk)
  obtain ⟨p, m, e1, e2, hpl, hml, h0⟩ := hz z
  clear hz
  subst e1 e2
  rw [if_pos z] at mb
  have out : ¬ (0 ≤ what ∧ what ≤ 1) → K 25 [none, none, none, none, none, none, none, none, none, none] [] (sh, I, L) (0, 0) := fun y => by
    rw [if_neg y] at mb
    rw [mb] at k
    have kk := k I (idn (fun u => absurd u.1 (by decide))) rfl
    rw [if_neg (by decide)] at kk
    exact B_X11_burnt_25 hK (k := kk)
  refine B_X11_burnt_16 hK (n17 := hw) (kt := fun y => out (by omega)) (kf := fun y => ?_)
  refine B_X11_burnt_20 hK (n22a := hw) (kt := fun y2 => ?_) (kf := fun y2 => out (by omega))
  rw [if_pos (show 0 ≤ what ∧ what ≤ 1 by omega)] at mb
  rw [mb, if_pos rfl, Int.toNat_natCast, Int.toNat_natCast] at k
  refine B_X11_burnt_28 hK hs (n34a := by omega) (kt := fun t => ?_) (kf := fun t => ?_)
  rotate_left
  · have kk := k I (idn (fun u => u.2 (by omega))) rfl
    rw [if_pos (by omega)] at kk
    exact B_X11_burnt_37 hK (k := kk)
  rw [if_neg (show ¬ I 44 21 = 30 by omega), if_pos (⟨rfl, by omega⟩ : (0 : Int) = 0 ∧ I 44 21 ≠ 30), show I 44 21 + 1 - I 44 21 = 1 by omega] at k
  have om := ok.2.2.2.2.2.2.2.2.1 m hml
  have on := vOn_bd om.2.1
  have oP := ok.1
  have oF := ok.2.2.2.2.2.1
  obtain ⟨h, s9, mr, -⟩ := R.2.2.2.1.2 m hml
  obtain ⟨g, s10, pr, -⟩ := R.2.2.2.2.1.2 p hpl
  have kb := (pr.k2 (I := I) rfl).kb
  have tp : (p : Int).toNat = p := Int.toNat_natCast p
  have tm : (m : Int).toNat = m := Int.toNat_natCast m
  have ge : ∀ x, 0 ≤ burG I m p x := fun x => bur_ge hs ok hpl hml h0
  refine B_X11_burnt_40 hK hs (b62 := by omega) (r62 := by rw [tm]; exact s9) (Aq62 := mr.1.1) (k := ?_)
  obtain ⟨R1, E1⟩ := R.five
  generalize u2 I 0 11 (I 0 11 + 1) = J0 at R1 E1
  obtain ⟨h', s9', mr0, -⟩ := R1.2.2.2.1.2 m (by rw [E1.at (by omega)]; exact hml)
  have hh' : h' = h := by rw [s9] at s9'; exact (Option.some.inj s9').symm
  subst hh'
  refine s_wayOn mr.1 ?_
  rw [show fShl 1 (J0 h' 1) - 1 = vOn I m by rw [mr0.2.2.2.1, E1.at (by omega)]; rfl]
  refine B_X11_burnt_66 hK hs (k := ?_)
  refine r_solved hs R1 (by rw [E1.at (by omega)]; exact hpl) (by rw [E1.at (by omega)]; exact hml) (by rw [E1.at (by omega)]; exact h0) (by rw [E1.on]; omega) (fun J1 F1 RJ1 _ v1 r1 => ?_)
  have v2 : J1 41 (16 * p + 4 * m + (vOn I m).toNat) = anV I m p 0 := by
    rw [E1.ev, E1.at (a := 47) (by omega)] at v1
    exact congrArg Prod.fst v1
  have E2 := E1.t F1.rf
  refine B_X11_burnt_69 hK hs (b69 := by omega) (k := ?_)
  rw [v2] at r1
  rw [Int.toNat_natCast, v2]
  generalize hg : burG I m p = gg at k ge
  have gx : ∀ x, gg x = anV (u2 I 45 x 0) m p 0 - anV I m p 0 := fun x => by rw [← hg]; rfl
  have lp : ∀ (n y : Nat) (J : Nat → Nat → Int), (y : Int) + 1 + n = I 44 0 → rfE I J → RelX sh J b hn ht 1 → (bqF gg y).1 ≤ 8 → (bqF gg y).2 ≤ 990 → K 81 [some (vR 0), some (vI (p : Int)), some (vI (m : Int)), some (vI what), none, some (vI (anV I m p 0)), some (vI (bqF gg y).1), some (vI (bqF gg y).2), some (vI ((y : Int) + 1)), none] [] (sh, J, L) (0, 0) := by
    intro n
    induction n with
    | zero =>
      intro y J hy E RJ c1 c2
      have bd := bqF_bd ge y
      have e30 : J 3 0 = I 44 0 := by rw [RJ.2.2.1.1, E.at (by omega)]
      refine B_X11_burnt_81 hK hs (n90a := by omega) (n90b := by omega) (kt := fun _ => ?_) (kf := fun u => absurd (by omega) u)
      have kk := k J ⟨hn, ht, RJ⟩ E
      obtain ⟨y', rfl⟩ : ∃ y', y = y' + 1 := ⟨y - 1, by omega⟩
      rw [show (I 44 0 - 1).toNat = y' + 1 by omega, bqF_is ge] at kk
      refine B_X11_burnt_176 hK (n177 := hw) (kt := fun u => ?_) (kf := fun u => ?_)
      · rw [if_neg u] at kk
        exact B_X11_burnt_185 hK (k := B_X11_burnt_187 hK (k := kk))
      · rw [if_pos (Classical.not_not.1 u)] at kk
        exact B_X11_burnt_180 hK (k := B_X11_burnt_187 hK (k := kk))
    | succ n ih =>
      intro y J hy E RJ c1 c2
      have bd := bqF_bd ge y
      have e30 : J 3 0 = I 44 0 := by rw [RJ.2.2.1.1, E.at (by omega)]
      refine B_X11_burnt_81 hK hs (n90a := by omega) (n90b := by omega) (kt := fun u => absurd u (by omega)) (kf := fun _ => ?_)
      have ey : ((y : Int) + 1).toNat = y + 1 := by omega
      obtain ⟨d0, d3, d4, d5, d6, dd⟩ := id RJ.2.2.1
      have x0 : J 44 0 = I 44 0 := E.at (by omega)
      have x3 : J 44 3 = I 44 3 := E.at (by omega)
      have x4 : J 44 4 = I 44 4 := E.at (by omega)
      have x5 : J 44 5 = I 44 5 := E.at (by omega)
      have f4 : J 4 (y + 1) = I 45 (y + 1) := by
        rw [(dd (y + 1) (by omega)).1]
        exact E.at (by omega)
      have fb := oF (y + 1) (by omega)
      have nx := fun J2 => ih (y + 1) J2 (by omega)
      rw [bqF] at nx
      refine B_X11_burnt_93 hK hs (b102 := by omega) (n103 := by rw [ey, f4]; omega) (kt := fun u => ?_) (kf := fun u => ?_)
      rotate_left
      · rw [ey, f4] at u
        have u := Classical.not_not.1 u
        have g0 : gg (y + 1) = 0 := by
          have : u2 I 45 (y + 1) 0 = I := by
            rw [← u]
            exact u2_id
          rw [gx, this]
          omega
        rw [g0, if_neg (by omega)] at nx
        exact B_X11_burnt_106 hK (k := B_X11_burnt_170 hK (k := nx J E RJ c1 c2))
      refine B_X11_burnt_109 hK hs (k := ?_)
      refine s_become (landO hs) (landT hs) (Or.inl ⟨rfl, rfl, rfl, rfl, rfl, rfl⟩) (fun J2 F2 a2 cc2 => ?_)
      refine B_X11_burnt_120 hK hs (b130 := by omega) (b143 := by omega) (r143 := by rw [tp]; exact s10) (kq143_2 := kb) (k := ?_)
      rw [ey]
      have q3 : ∀ x k, ¬ (6 ≤ x ∧ x ≤ 8) → (u2 J2 7 (y + 1) 0) x k = J x k := fun x k hx => by
        rw [uN (by omega), F2 x k (by simp <;> omega) (by simp <;> omega)]
      obtain ⟨R3, E13⟩ := RJ.sc q3
      have E3 := E.t E13
      have lm : lMat (u2 J2 7 (y + 1) 0) (u2 I 45 (y + 1) 0) 6 7 8 := by
        refine ⟨?_, ?_, ?_, ?_, fun x hx => ?_⟩
        · show (u2 J2 7 (y + 1) 0) 6 0 = I 44 0
          rw [uN (by decide), a2.1, d0, x0]
        · show (u2 J2 7 (y + 1) 0) 6 3 = I 44 3
          rw [uN (by decide), a2.2.1, d3, x3]
        · show (u2 J2 7 (y + 1) 0) 6 4 = I 44 4
          rw [uN (by decide), a2.2.2.1, d4, x4]
        · show (u2 J2 7 (y + 1) 0) 6 5 = I 44 5
          rw [uN (by decide), a2.2.2.2.1, d5, x5]
        · have hx : (x : Int) < I 44 0 := hx
          obtain ⟨dx, dy⟩ := dd x (by omega)
          obtain ⟨cx, cy⟩ := cc2 x (by omega)
          refine ⟨?_, ?_⟩
          · by_cases zx : x = y + 1
            · rw [zx, uA, uA]
            · rw [uK zx, uK zx, cx, dx, E.at (by omega)]
          · rw [uN (by decide), uN (by decide), cy, dy, E.at (by omega)]
      generalize u2 J2 7 (y + 1) 0 = J3 at *
      obtain ⟨h2, s92, mr3, -⟩ := R3.2.2.2.1.2 m (by rw [E3.at (by omega)]; exact hml)
      have hh2 : h2 = h' := by rw [s9] at s92; exact (Option.some.inj s92).symm
      subst hh2
      obtain ⟨g2, s102, pr3, -⟩ := R3.2.2.2.2.1.2 p (by rw [E3.at (by omega)]; exact hpl)
      have gg2 : g2 = g := by rw [s10] at s102; exact (Option.some.inj s102).symm
      subst gg2
      have pk3 := pr3.k2 E3
      have eg : J3 g2 0 = I 53 p := pk3.2.1
      refine r_hungryIn (R := u2 I 45 (y + 1) 0) (m := m) (p := p) (more := 0) hs (laO hs) mr3.1 (ok.fl (by decide)) lm (show mMat J3 (u2 I 45 (y + 1) 0) h2 m from (mr3.mat2 E3 : mMat J3 I h2 m)) pk3 s9 s10 h0 hml hpl (Or.inl rfl) (show J3 g2 0 = I 53 p + 0 by omega) (fun J4 F4 bd4 => ?_)
      have gy := gx (y + 1)
      have E4 := E3.t F4.y.rf
      have R4 := R3.y F4.y (R3.2.2.2.2.2.1.k F4)
      refine B_X11_burnt_150 hK (n159a := by omega) (n159b := by omega) (kt := fun v => ?_) (kf := fun v => ?_)
      · rw [if_neg (by omega)] at nx
        exact B_X11_burnt_170 hK (k := nx J4 E4 R4 c1 c2)
      · rw [if_pos (by omega)] at nx
        rw [← gy]
        exact B_X11_burnt_162 hK (k := B_X11_burnt_170 hK (k := nx J4 E4 R4 (by dsimp only; omega) (by dsimp only; omega)))
  exact lp (I 44 0 - 1).toNat 0 J1 (by omega) E2 RJ1 (show (1 : Int) ≤ 8 by decide) (show (0 : Int) ≤ 990 by decide)
