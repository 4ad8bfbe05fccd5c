/-! questions of the reference: hungry, carried -/
theorem sm_cons (g : stT → Int) (a : stT) (l : List stT) : sm (a :: l).length (fun i => g (stG (a :: l) i)) = g a + sm l.length (fun i => g (stG l i)) := by
  rw [show (a :: l).length = 1 + l.length by simp; omega, sm_split]
  have e1 : sm 1 (fun i => g (stG (a :: l) i)) = g a := by
    show 0 + g (stG (a :: l) 0) = g a
    rw [Int.zero_add]
    rfl
  rw [e1]
  have e2 : ∀ i, stG (a :: l) (1 + i) = stG l i := fun i => by
    rw [Nat.add_comm]
    simp [stG]
  rw [sm_congr (fun i _ => by rw [e2 i])]
theorem sm_pm (g : stT → Int) {l m : List stT} (h : l.Perm m) : sm l.length (fun i => g (stG l i)) = sm m.length (fun i => g (stG m i)) := by
  induction h with
  | nil => rfl
  | cons x _ ih => rw [sm_cons, sm_cons, ih]
  | swap x y l => rw [sm_cons, sm_cons, sm_cons, sm_cons]; omega
  | trans _ _ ih1 ih2 => rw [ih1, ih2]
theorem evL_pm {P last : Int} {F men col : Nat → Int} {l m : List stT} {bk bd kp so : Int} (h : l.Perm m) : evL P last F men col l bk bd kp so = evL P last F men col m bk bd kp so := by
  have e : capL P last F men col l bk bd kp so = capL P last F men col m bk bd kp so := by
    unfold capL capJ
    have : rJ P last l.length (fun i => (stG l i).1) (fun i => (stG l i).2.1) (fun i => (stG l i).2.2) bk bd so = rJ P last m.length (fun i => (stG m i).1) (fun i => (stG m i).2.1) (fun i => (stG m i).2.2) bk bd so := by
      funext j
      unfold rJ bkc
      rw [sm_pm (fun s => if s.1 = ((j / 19 : Nat) : Int) ∧ s.2.1 - so + bd ≤ ((j % 19 : Nat) : Int) - 9 ∧ ((j % 19 : Nat) : Int) - 9 ≤ s.2.2 then 1 else 0) h]
    rw [this]
  unfold evL
  rw [e]
noncomputable def pEv (I : Nat → Nat → Int) (m p : Nat) (more way last so : Int) : Int × Int := evL (I 44 0) last (vF I) (vM I m) (colP (I 44 0) (vS I m) way) (pRaw I m p more) (I 44 3) (I 44 4) (I 44 5) so
/-- a march is loaded, a plan's stands are laid -/
def mQ (I J : Nat → Nat → Int) (m p : Nat) (more : Int) : Prop := Fr [65, 66, 67, 68, 69, 70, 71, 72, 73, 74, 75, 76] [(44, 38), (44, 39), (44, 43), (44, 47), (44, 54), (44, 55), (44, 56), (44, 57), (44, 58)] I J ∧ ((p : Int) < I 44 14 ∧ (m : Int) < I 44 8 ∧ I 44 0 ≠ 0) ∧ mLd I J m ∧ ∃ l, mLs J l ∧ (pRaw I m p more).Perm l ∧ l.Pairwise nAh
theorem mOK.raw {I : Nat → Nat → Int} (h : mOK I) {m p : Nat} {more : Int} (hp : (p : Int) < I 44 14) (hm : (m : Int) < I 44 8) (h0 : I 44 0 ≠ 0) (hmo : 0 ≤ more ∧ more ≤ 1) : stOK (I 44 0) (I 47 m) (pRaw I m p more) ∧ (pRaw I m p more).length ≤ 40 := by
  obtain ⟨h1, h2, h3, h4, h5, h6, h7, h8, h9, h10, h11⟩ := h
  have hm' := h9 m hm
  obtain ⟨q0, o1, o2, o3, o4, o5⟩ := h11 p hp
  exact rawL_ok ⟨o1, by omega, o3, o4, o5⟩ (by omega) (by omega)
theorem s_flowQ {sh : oS} {I : Nat → Nat → Int} {L : Nat → Nat → Int64} {Q : oQ} {J : Nat → Nat → Int} (hs : Sh sh) {m p : Nat} {more way last so : Int} (h : mOK I) (hq : mQ I J m p more) (hmo : 0 ≤ more ∧ more ≤ 1) (hla : 0 ≤ last ∧ last < I 47 m) (hso : 0 ≤ so ∧ so ≤ 9)
    (k : ∀ J2, mQ I J2 m p more → (J2 44 54, J2 44 55) = pEv I m p more way last so → inR (J2 44 54) → (inR (J2 44 55) ∧ ((0 ≤ J2 44 54 ∧ J2 44 54 ≤ 990) ∧ 0 ≤ J2 44 55 ∧ J2 44 55 ≤ 13860) ∧ Fr [67, 71, 72, 73, 74, 75, 76] [(44, 47), (44, 54), (44, 55)] J J2) → Q none (sh, J2, L)) : T_X12_flow [vR 44, vI way, vI last, vI so] (sh, J, L) Q := by
  obtain ⟨F, ⟨g1, g2, g3⟩, ld, l, ml, pl, wl⟩ := hq
  have go := h.go F g2 g3 ld (by decide) (by decide)
  have rok := h.raw (more := more) g1 g2 g3 hmo
  obtain ⟨h1, h2, h3, h4, h5, h6, h7, h8, h9, h10, h11⟩ := id h
  have hm' := h9 m g2
  refine s_mflowL hs go ml (by rw [← pl.length_eq]; exact rok.2) (by
    have := rok.1.pm pl
    rw [show ((I 44 0).toNat : Int) = I 44 0 by omega, show ((I 47 m).toNat : Int) = I 47 m by omega]
    exact this) (by omega) hso (fun J2 F2 C2 v2 r1 r2 => ?_)
  refine k J2 ⟨F.tr F2 (by decide) (by decide) (by decide) (by decide), ⟨g1, g2, g3⟩, ⟨?_, ?_, fun d hd => ?_⟩, l, ⟨?_, fun i hi => ?_⟩, pl, wl⟩ ?_ r1 ⟨r2.1, r2.2, F2⟩
  · rw [F2 44 38 (by decide) (by decide)]; exact ld.1
  · rw [F2 44 39 (by decide) (by decide)]; exact ld.2.1
  · rw [F2 65 d (by decide) (by simp), F2 66 d (by decide) (by simp)]
    exact ld.2.2 d hd
  · rw [F2 44 43 (by decide) (by decide)]; exact ml.1
  · rw [F2 68 i (by decide) (by simp), F2 69 i (by decide) (by simp), F2 70 i (by decide) (by simp)]
    exact ml.2 i hi
  · rw [v2]
    unfold pEv
    rw [evL_pm pl, F 44 0 (by decide) (by decide), F 44 3 (by decide) (by decide), F 44 4 (by decide) (by decide), F 44 5 (by decide) (by decide), fn_eq F 45 (by decide) (by decide)]
    refine evL_cg (fun x hx => by unfold vF; rw [if_pos hx]) (fun u hu => (ld.2.2 u (by omega)).2) (fun u hu => ?_)
    exact colP_cg (D := (I 47 m).toNat) (fun d hd => (ld.2.2 d (by omega)).1) (by omega)
def barW (I : Nat → Nat → Int) (plan march way : Int) : Int := barV I plan march (if way = -1 then -2 else way) 1
theorem s_barsWay {sh : oS} {I : Nat → Nat → Int} {L : Nat → Nat → Int64} {Q : oQ} (hs : Sh sh) {plan march way : Int} (h : mOK I) (hp : inR plan) (hm : inR march) (hw : inR way)
    (k : ∀ r J, Fr [65, 66, 67, 68, 69, 70, 71, 72, 73, 74, 75, 76] [(44, 38), (44, 39), (44, 43), (44, 47), (44, 54), (44, 55), (44, 56), (44, 57), (44, 58)] I J → r = barW I plan march way → (r = 0 → ∃ (p m : Nat), plan = (p : Int) ∧ march = (m : Int) ∧ (0 ≤ way ∧ way ≤ vOn I m) ∧ mQ I J m p 0) → Q (some (vI r)) (sh, J, L)) : T_X12_barsWay [vR 44, vI plan, vI march, vI way] (sh, I, L) Q := by
  refine And.intro (Nat.le_of_ble_eq_true rfl) (fun K hK => ?_)
  have tl : ∀ w, w = (if way = -1 then -2 else way) → K 14 [none, none, none, none] [vI w, vI march, vI plan, vR 44] (sh, I, L) (0, 0) := fun w hw2 => by
    refine B_X12_barsWay_14 hK hs (k := ?_)
    have hwi : inR w := by rw [hw2]; split <;> omega
    refine s_bars hs h hp hm hwi (by decide) (fun r J F hr hz => ?_)
    refine B_X12_barsWay_18 hK (k := k r J F (by rw [hr, hw2]; rfl) (fun z => ?_))
    obtain ⟨p, m, l, e1, e2, g1, g2, g3, ld, ml, pl, wl⟩ := hz z
    refine ⟨p, m, e1, e2, ?_, F, ⟨g1, g2, g3⟩, ld, l, ml, pl, wl⟩
    rw [z] at hr
    unfold barV at hr
    subst e1 e2
    rw [if_neg (fun y => y ⟨by omega, by omega⟩), if_neg g3, Int.toNat_natCast] at hr
    by_cases y : (w ≠ -1 ∧ ¬ (0 ≤ w ∧ w ≤ vOn I m)) ∨ (1 : Int) = 0
    · rw [if_pos y] at hr
      exact absurd hr (by decide)
    · by_cases x : way = -1
      · rw [if_pos x] at hw2
        exact absurd (Or.inl ⟨by omega, by omega⟩) y
      · rw [if_neg x] at hw2
        subst hw2
        by_cases u : 0 ≤ w ∧ w ≤ vOn I m
        · exact u
        · exact absurd (Or.inl ⟨x, u⟩) y
  refine B_X12_barsWay_0 hK (n5a := hw) (kt := fun z => ?_) (kf := fun z => ?_)
  · exact B_X12_barsWay_13 hK (k := tl way (by rw [if_neg z]))
  · exact B_X12_barsWay_8 hK (k := tl (-2) (by rw [if_pos (Classical.not_not.1 z)]))
noncomputable def hunV (I : Nat → Nat → Int) (plan march way : Int) : Int := if barW I plan march way = 0 then (pEv I march.toNat plan.toNat 0 way (I 47 march.toNat - 1) 0).1 else barW I plan march way
noncomputable def carV (I : Nat → Nat → Int) (plan march way : Int) : Int := if barW I plan march way = 0 then (pEv I march.toNat plan.toNat 0 way (I 47 march.toNat - 1) 0).2 else barW I plan march way
theorem barW_in {I : Nat → Nat → Int} {plan march way : Int} : inR (barW I plan march way) := by
  unfold barW barV
  generalize (if way = -1 then -2 else way) = w
  split
  · decide
  · split
    · decide
    · split <;> decide
theorem s_mhungry {sh : oS} {I : Nat → Nat → Int} {L : Nat → Nat → Int64} {Q : oQ} (hs : Sh sh) {plan march way : Int} (h : mOK I) (hp : inR plan) (hm : inR march) (hw : inR way)
    (k : ∀ J, Fr [65, 66, 67, 68, 69, 70, 71, 72, 73, 74, 75, 76] [(44, 38), (44, 39), (44, 43), (44, 47), (44, 54), (44, 55), (44, 56), (44, 57), (44, 58)] I J → Q (some (vI (hunV I plan march way))) (sh, J, L)) : T_X12_hungry [vR 44, vI plan, vI march, vI way] (sh, I, L) Q := by
  refine And.intro (Nat.le_of_ble_eq_true rfl) (fun K hK => ?_)
  refine B_X12_hungry_0 hK hs (k := ?_)
  refine s_barsWay hs h hp hm hw (fun r J F hr hz => ?_)
  have ri : inR r := by rw [hr]; exact barW_in
  unfold hunV at k
  rw [← hr] at k
  refine B_X12_hungry_7 hK (n11 := ri) (kt := fun z => ?_) (kf := fun z => ?_)
  · obtain ⟨p, m, e1, e2, e3, q⟩ := hz z
    subst e1 e2
    rw [if_pos z, Int.toNat_natCast, Int.toNat_natCast] at k
    have hm' := h.2.2.2.2.2.2.2.2.1 m q.2.1.2.1
    refine B_X12_hungry_17 hK hs (k := ?_)
    rw [q.2.2.1.1]
    refine s_flowQ hs h q (by decide) (by omega) (by decide) (fun J2 q2 v2 r1 r2 => ?_)
    refine B_X12_hungry_29 hK hs (k := ?_)
    have := k J2 q2.1
    rw [← v2] at this
    exact this
  · rw [if_neg z] at k
    exact B_X12_hungry_14 hK (k := k J F)
theorem s_mcarried {sh : oS} {I : Nat → Nat → Int} {L : Nat → Nat → Int64} {Q : oQ} (hs : Sh sh) {plan march way : Int} (h : mOK I) (hp : inR plan) (hm : inR march) (hw : inR way)
    (k : ∀ J, Fr [65, 66, 67, 68, 69, 70, 71, 72, 73, 74, 75, 76] [(44, 38), (44, 39), (44, 43), (44, 47), (44, 54), (44, 55), (44, 56), (44, 57), (44, 58)] I J → Q (some (vI (carV I plan march way))) (sh, J, L)) : T_X12_carried [vR 44, vI plan, vI march, vI way] (sh, I, L) Q := by
  refine And.intro (Nat.le_of_ble_eq_true rfl) (fun K hK => ?_)
  refine B_X12_carried_0 hK hs (k := ?_)
  refine s_barsWay hs h hp hm hw (fun r J F hr hz => ?_)
  have ri : inR r := by rw [hr]; exact barW_in
  unfold carV at k
  rw [← hr] at k
  refine B_X12_carried_7 hK (n11 := ri) (kt := fun z => ?_) (kf := fun z => ?_)
  · obtain ⟨p, m, e1, e2, e3, q⟩ := hz z
    subst e1 e2
    rw [if_pos z, Int.toNat_natCast, Int.toNat_natCast] at k
    have hm' := h.2.2.2.2.2.2.2.2.1 m q.2.1.2.1
    refine B_X12_carried_17 hK hs (k := ?_)
    rw [q.2.2.1.1]
    refine s_flowQ hs h q (by decide) (by omega) (by decide) (fun J2 q2 v2 r1 r2 => ?_)
    refine B_X12_carried_29 hK hs (k := ?_)
    have := k J2 q2.1
    rw [← v2] at this
    exact this
  · rw [if_neg z] at k
    exact B_X12_carried_14 hK (k := k J F)
