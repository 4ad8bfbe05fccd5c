/-! the class answers: more, burnt -/
theorem RelX.sc {sh : oS} {I J : Nat → Nat → Int} {b hn ht : Nat} {a : Int} (h : RelX sh I b hn ht a) (q : ∀ x k, ¬ (6 ≤ x ∧ x ≤ 8) → J x k = I x k) : RelX sh J b hn ht a ∧ rfE I J := by
  have e : rfE I J := rfE.of (fun x k c => q x k (by omega))
  refine ⟨h.fr e (h.2.2.2.2.2.1.eq e (fun x => ⟨q 41 x (by omega), q 42 x (by omega), q 43 x (by omega)⟩)) ?_ (fun x k h1 h2 _ _ _ _ => q x k (fun c => h2 (by unfold scr; omega))), e⟩
  rw [q 0 11 (by omega), e.at (by omega)]
  exact h.2.2.2.2.2.2.1.2
theorem bar_w {I : Nat → Nat → Int} {plan march : Int} {c : Prop} [Decidable c] : barV I plan march (-1) (if c then 1 else 0) = if barV I plan march (-1) 1 = 0 then (if c then 0 else -102) else barV I plan march (-1) 1 := by
  rw [bar_a]
  by_cases z : barV I plan march (-1) 1 = 0
  · rw [if_pos z, if_pos z, one_if]
  · rw [if_neg z, if_neg z]
set_option maxHeartbeats 2000000 in
theorem c_more {sh : oS} {I : Nat → Nat → Int} {L : Nat → Nat → Int64} {Q : oQ} (hs : Sh sh) {b : Nat} {plan march what : Int} (R : Rel sh I b 0) (hp : inR plan) (hm : inR march) (hw : inR what) (k : ∀ J, Rel sh J b (morA I plan march what - I 44 21) → rfE I J → Q (some (vI (morV I plan march what))) (sh, J, L)) : T_X11_more [vR 0, vI plan, vI march, vI what] (sh, I, L) Q := by
  refine And.intro (Nat.le_of_ble_eq_true rfl) (fun K hK => ?_)
  obtain ⟨hn, ht, R⟩ := R
  have ok := R.1.1
  have o10 := R.1.1.2.2.2.2.2.2.2.2.2.1
  have o8 := R.1.1.2.2.2.2.2.2.2.1
  have o21 := R.1.2.2.1
  have e11 := R.2.2.2.2.2.2.1.2
  have mb : morB I plan march what = if barV I plan march (-1) 1 = 0 then (if 0 ≤ what ∧ what ≤ 4 then 0 else -102) else barV I plan march (-1) 1 := bar_w
  unfold morV morA at k
  have idn : ∀ {X : Prop} [Decidable X], ¬ X → Rel sh I b ((if X then I 44 21 + 1 else I 44 21) - I 44 21) := fun hx => by
    rw [if_neg hx, Int.sub_self]
    exact ⟨hn, ht, R⟩
  refine B_X11_more_0 hK hs (k := ?_)
  refine s_refusal hs R hp hm (fun r hr hz => ?_)
  have rb := bar1 (I := I) (plan := plan) (march := march)
  rw [← hr] at rb mb
  refine B_X11_more_6 hK (n10 := by omega) (kt := fun z => ?_) (kf := fun z => ?_)
  rotate_left
  · rw [if_neg z] at mb
    rw [mb] at k
    have kk := k I (idn (fun u => z u.1)) rfl
    rw [if_neg z] at kk
    refine B_X11_more_13 hK (n17a := by omega) (kt := fun y => ?_) (kf := fun y => ?_)
    · rw [if_neg y, if_pos (by omega)] at kk
      exact B_X11_more_26 hK (k := B_X11_more_29 hK (k := kk))
    · rw [if_pos (Classical.not_not.1 y)] at kk
      exact B_X11_more_20 hK (k := B_X11_more_29 hK (k := kk))
  obtain ⟨p, m, e1, e2, hpl, hml, h0⟩ := hz z
  subst e1 e2
  rw [if_pos z] at mb
  have out : ¬ (0 ≤ what ∧ what ≤ 4) → K 39 [none, none, none, none, none, none, none] [] (sh, I, L) (0, 0) := fun y => by
    rw [if_neg y] at mb
    rw [mb] at k
    have kk := k I (idn (fun u => absurd u.1 (by decide))) rfl
    rw [if_neg (by decide), if_neg (by decide), if_neg (by decide)] at kk
    exact B_X11_more_39 hK (k := kk)
  refine B_X11_more_30 hK (n31 := hw) (kt := fun y => out (by omega)) (kf := fun y => ?_)
  refine B_X11_more_34 hK (n36a := hw) (kt := fun y2 => ?_) (kf := fun y2 => out (by omega))
  have hw4 : 0 ≤ what ∧ what ≤ 4 := by omega
  rw [if_pos hw4] at mb
  rw [mb, if_pos rfl, Int.toNat_natCast, Int.toNat_natCast] at k
  have om := ok.2.2.2.2.2.2.2.2.1 m hml
  have on := vOn_bd om.2.1
  have q53 := ok.2.2.2.2.2.2.2.2.2.2 p hpl
  obtain ⟨h, s9, mr, -⟩ := R.2.2.2.1.2 m hml
  obtain ⟨g, s10, pr, -⟩ := R.2.2.2.2.1.2 p hpl
  have pk := pr.k2 (I := I) rfl
  have tp : (p : Int).toNat = p := Int.toNat_natCast p
  have tm : (m : Int).toNat = m := Int.toNat_natCast m
  have bad : (morN I p what = 1 ∨ I 44 21 = 30) → K 72 [none, none, none, none, none, none, none] [] (sh, I, L) (0, 0) := fun t => by
    have kk := k I (idn (fun u => u.2 t)) rfl
    rw [if_pos t] at kk
    exact B_X11_more_72 hK (k := kk)
  have go : ¬ (morN I p what = 1 ∨ I 44 21 = 30) → K 76 [some (vR 0), some (vI (p : Int)), some (vI (m : Int)), some (vI what), none, some (vR g), none] [] (sh, I, L) (0, 0) := by
    intro t
    rw [if_neg t, if_pos (⟨rfl, t⟩ : (0 : Int) = 0 ∧ ¬ (morN I p what = 1 ∨ I 44 21 = 30)), show I 44 21 + 1 - I 44 21 = 1 by omega] at k
    have okR : mOK (morI I what) := ok.mor R.1.2.1.1 R.1.2.1.2.1 (R.1.2.1.2.2 0 (by decide))
    refine B_X11_more_76 hK hs (b98 := by omega) (r98 := by rw [tm]; exact s9) (Aq98 := mr.1.1) (k := ?_)
    obtain ⟨R1, E1⟩ := R.five
    generalize u2 I 0 11 (I 0 11 + 1) = J0 at R1 E1
    obtain ⟨h', s9', mr0, -⟩ := R1.2.2.2.1.2 m (by rw [E1.at (by omega)]; exact hml)
    have hh' : h' = h := by rw [s9] at s9'; exact (Option.some.inj s9').symm
    subst hh'
    refine s_wayOn mr.1 ?_
    rw [show fShl 1 (J0 h' 1) - 1 = vOn I m by rw [mr0.2.2.2.1, E1.at (by omega)]; rfl]
    refine B_X11_more_102 hK hs (k := ?_)
    refine r_solved hs R1 (by rw [E1.at (by omega)]; exact hpl) (by rw [E1.at (by omega)]; exact hml) (by rw [E1.at (by omega)]; exact h0) (by rw [E1.on]; omega) (fun J1 F1 RJ1 _ v1 r1 => ?_)
    have v2 : J1 41 (16 * p + 4 * m + (vOn I m).toNat) = anV I m p 0 := by
      rw [E1.ev, E1.at (a := 47) (by omega)] at v1
      exact congrArg Prod.fst v1
    have E2 := E1.t F1.rf
    refine B_X11_more_105 hK hs (b105 := by omega) (k := ?_)
    rw [Int.toNat_natCast, v2]
    refine s_become (landO hs) (landT hs) (Or.inl ⟨rfl, rfl, rfl, rfl, rfl, rfl⟩) (fun J2 F2 a2 c2 => ?_)
    have ld := RJ1.2.2.1
    have x0 : J1 44 0 = I 44 0 := E2.at (by omega)
    have x3 : J1 44 3 = I 44 3 := E2.at (by omega)
    have x4 : J1 44 4 = I 44 4 := E2.at (by omega)
    have x5 : J1 44 5 = I 44 5 := E2.at (by omega)
    have o4 := ok.2.2.1
    have oP := ok.1
    obtain ⟨d0, d3, d4, d5, d6, dd⟩ := ld
    refine B_X11_more_119 hK hs (k := ?_)
    refine s_getMore hs hw4 (by omega) (fun J3 F3 g3 g5 g0 g4 => ?_)
    have q3 : ∀ x k, ¬ (6 ≤ x ∧ x ≤ 8) → J3 x k = J1 x k := fun x k hx => by
      rw [F3 x k (by simp) (by simp <;> omega), F2 x k (by simp <;> omega) (by simp <;> omega)]
    obtain ⟨R3, E13⟩ := RJ1.sc q3
    have E3 := E2.t E13
    have lm : lMat J3 (morI I what) 6 7 8 := by
      refine ⟨?_, ?_, ?_, ?_, fun x hx => ?_⟩
      · show J3 6 0 = I 44 0
        rw [F3 6 0 (by simp) (by simp), a2.1, d0, x0]
      · show J3 6 3 = I 44 3 + (if what = 1 then 1 else 0)
        rw [g3, a2.2.1, d3, x3]
      · show J3 6 4 = I 44 4 - (if what = 4 ∧ 0 < I 44 4 then 1 else 0)
        rw [g4, a2.2.2.1, d4, x4]
      · show J3 6 5 = I 44 5 + (if what = 2 then 1 else 0)
        rw [g5, a2.2.2.2.1, d5, x5]
      · have hx : (x : Int) < I 44 0 := hx
        obtain ⟨dx, dy⟩ := dd x (by omega)
        obtain ⟨cx, cy⟩ := c2 x (by omega)
        refine ⟨?_, ?_⟩
        · show J3 7 x = (if x = 0 then I 45 0 + (if what = 3 then 10 else 0) else I 45 x)
          by_cases zx : x = 0
          · subst zx
            rw [if_pos rfl, g0, cx, dx, E2.at (by omega)]
          · rw [if_neg zx, F3 7 x (by simp) (by simp <;> omega), cx, dx, E2.at (by omega)]
        · show J3 8 x = I 46 x
          rw [F3 8 x (by simp) (by simp), cy, dy, E2.at (by omega)]
    obtain ⟨h2, s92, mr3, -⟩ := R3.2.2.2.1.2 m (by rw [E3.at (by omega)]; exact hml)
    have hh2 : h2 = h' := by rw [s9] at s92; exact (Option.some.inj s92).symm
    subst hh2
    obtain ⟨g2, s102, pr3, -⟩ := R3.2.2.2.2.1.2 p (by rw [E3.at (by omega)]; exact hpl)
    have gg2 : g2 = g := by rw [s10] at s102; exact (Option.some.inj s102).symm
    subst gg2
    have pk3 := pr3.k2 E3
    have eg : J3 g2 0 = I 53 p := pk3.2.1
    have fin : ∀ more many : Int, more = (if what = 0 then 1 else 0) → many = I 53 p + more → K 155 [none, none, none, none, none, none, none] [vI many, vI (m : Int), vI (p : Int), vR 6, vR 0, vI (anV I m p 0)] (sh, J3, L) (0, 0) := by
      intro more many em ey
      refine B_X11_more_155 hK hs (k := ?_)
      have hmo : more = 0 ∨ (more = 1 ∧ I 52 p ≤ 2 ∧ I 53 p < 3) := by
        by_cases zw : what = 0
        · rw [if_pos zw] at em
          refine Or.inr ⟨em, ?_⟩
          have tn : ¬ morN I p what = 1 := fun u => t (Or.inl u)
          unfold morN at tn
          by_cases y : what = 0 ∧ (2 < I 52 p ∨ I 53 p = 3)
          · rw [if_pos y] at tn
            exact absurd rfl tn
          · have : ¬ (2 < I 52 p ∨ I 53 p = 3) := fun u => y ⟨zw, u⟩
            omega
        · rw [if_neg zw] at em
          exact Or.inl em
      refine r_hungryIn (R := morI I what) (m := m) (p := p) (more := more) hs (laO hs) mr3.1 okR lm (show mMat J3 (morI I what) h2 m from (mr3.mat2 E3 : mMat J3 I h2 m)) pk3 s9 s10 h0 hml hpl hmo ey (fun J4 F4 _ => ?_)
      refine B_X11_more_158 hK (k := ?_)
      rw [em]
      exact k J4 ⟨hn, ht, R3.y F4.y (R3.2.2.2.2.2.1.k F4)⟩ (E3.t F4.y.rf)
    refine B_X11_more_127 hK hs (n137 := hw) (kt := fun zw => ?_) (kf := fun zw => ?_)
    · refine B_X11_more_150 hK (kh5_0 := pk.kb) (k := ?_)
      exact fin 0 _ (by rw [if_neg zw]) (by omega)
    · refine B_X11_more_140 hK (kh5_0 := pk.kb) (k := ?_)
      exact fin 1 _ (by rw [if_pos (Classical.not_not.1 zw)]) (by omega)
  refine B_X11_more_43 hK hs (b48 := by omega) (r48 := by rw [tp]; exact s10) (n57a := by omega) (kt := fun t => bad (by omega)) (kf := fun t => ?_)
  have n30 : ¬ I 44 21 = 30 := by omega
  refine B_X11_more_60 hK (n61 := hw) (kt := fun zw => go ?_) (kf := fun zw => ?_)
  · intro u
    rcases u with u | u
    · unfold morN at u
      rw [if_neg (fun v => zw v.1)] at u
      exact absurd u (by decide)
    · exact n30 u
  · have zw := Classical.not_not.1 zw
    have e53 : I g 0 = I 53 p := pk.2.1
    have i53 := q53.1
    have kd : (sK sh g = 0 ∨ sK sh g = 3 ∨ sK sh g = 5) → I 52 p ≤ 2 := fun u => by
      rcases pk.2.2.2 with ⟨c1, c2, -⟩ | ⟨c1, c2, -⟩ | ⟨c1, c2, -⟩ | ⟨c1, c2, -⟩ | ⟨c1, c2, -⟩ <;> omega
    have kd2 : (sK sh g = 1 ∨ sK sh g = 10) → 2 < I 52 p := fun u => by
      rcases pk.2.2.2 with ⟨c1, c2, -⟩ | ⟨c1, c2, -⟩ | ⟨c1, c2, -⟩ | ⟨c1, c2, -⟩ | ⟨c1, c2, -⟩ <;> omega
    have tk : (sK sh g = 0 ∨ sK sh g = 3 ∨ sK sh g = 5) → T_X0_takesOneMore [vR g] (sh, I, L) (fun r mm => K 69 [some (vR 0), some (vI (p : Int)), some (vI (m : Int)), some (vI what), none, some (vR g), none] (r.toList ++ []) mm (0, 0)) := fun u => by
      have u2 := kd u
      refine And.intro (Nat.le_of_ble_eq_true rfl) (fun K2 hK2 => ?_)
      refine B_X0_takesOneMore_0 hK2 (kh0_0 := pk.kb) (n5a := by omega) (kt := fun y => ?_) (kf := fun y => ?_)
      · refine B_X0_takesOneMore_12 hK2 (k := B_X0_takesOneMore_13 hK2 (o13 := Or.inl rfl) (k := ?_))
        refine B_X11_more_69 hK (n69 := by decide) (kt := fun y => absurd rfl y) (kf := fun _ => bad (Or.inl ?_))
        unfold morN
        rw [if_pos ⟨zw, Or.inr (by omega)⟩]
      · refine B_X0_takesOneMore_8 hK2 (k := B_X0_takesOneMore_13 hK2 (o13 := Or.inr rfl) (k := ?_))
        refine B_X11_more_69 hK (n69 := by decide) (kt := fun _ => go ?_) (kf := fun y => absurd (by decide) y)
        intro v
        rcases v with v | v
        · unfold morN at v
          rw [if_neg (by omega)] at v
          exact absurd v (by decide)
        · exact n30 v
    have no : (sK sh g = 1 ∨ sK sh g = 10) → K 69 [some (vR 0), some (vI (p : Int)), some (vI (m : Int)), some (vI what), none, some (vR g), none] [vI 0] (sh, I, L) (0, 0) := fun u => by
      refine B_X11_more_69 hK (n69 := by decide) (kt := fun y => absurd rfl y) (kf := fun _ => bad (Or.inl ?_))
      unfold morN
      rw [if_pos ⟨zw, Or.inl (kd2 u)⟩]
    refine B_X11_more_64 hK (k0 := fun u => tk (Or.inl u)) (k1 := fun u => ?_) (k3 := fun u => tk (Or.inr (Or.inl u))) (k5 := fun u => tk (Or.inr (Or.inr u))) (k10 := fun u => ?_) (kb := pk.kb)
    · refine And.intro (Nat.le_of_ble_eq_true rfl) (fun K2 hK2 => ?_)
      exact B_X1_takesOneMore_0 hK2 (k := no (Or.inl u))
    · refine And.intro (Nat.le_of_ble_eq_true rfl) (fun K2 hK2 => ?_)
      exact B_X10_takesOneMore_0 hK2 (k := no (Or.inr u))
