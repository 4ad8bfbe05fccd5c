/-! the reference: which plan bears most -/
noncomputable def whF (s : Nat → Int × Int) : Nat → Int × Int × Int
  | 0 => (-1, 0, 0)
  | n + 1 => if (whF s n).1 = -1 ∨ (s n).1 < (whF s n).2.1 ∨ ((s n).1 = (whF s n).2.1 ∧ (s n).2 < (whF s n).2.2) then ((n : Int), (s n).1, (s n).2) else whF s n
noncomputable def whS (I : Nat → Nat → Int) (m p : Nat) : Int × Int := ((mnS I m p).1, (mnS I m p).2.1)
noncomputable def whiV (I : Nat → Nat → Int) (march : Int) : Int := if ¬ (0 ≤ march ∧ march < I 44 8) then -101 else if I 44 0 = 0 ∨ I 44 21 = 30 then -103 else (whF (whS I march.toNat) (I 44 14).toNat).1
def whiA (I : Nat → Nat → Int) (march : Int) : Int := if (0 ≤ march ∧ march < I 44 8) ∧ I 44 0 ≠ 0 ∧ I 44 21 ≠ 30 then I 44 21 + 1 else I 44 21
set_option maxHeartbeats 1000000 in
theorem s_mwhich {sh : oS} {I : Nat → Nat → Int} {L : Nat → Nat → Int64} {Q : oQ} (hs : Sh sh) {march : Int} (h : mOK I) (hq : 0 ≤ I 44 21 ∧ I 44 21 ≤ 30) (hm : inR march)
    (k : ∀ J, FrQ (u2 I 44 21 (whiA I march)) J → Q (some (vI (whiV I march))) (sh, J, L)) : T_X12_which [vR 44, vI march] (sh, I, L) Q := by
  refine And.intro (Nat.le_of_ble_eq_true rfl) (fun K hK => ?_)
  obtain ⟨h1, h2, h3, h4, h5, h6, h7, h8, h9, h10, h11⟩ := id h
  unfold whiV whiA at k
  refine B_X12_which_0 hK hs (k := ?_)
  refine s_isMarch hs hm (by omega) (fun r hr => ?_)
  refine B_X12_which_5 hK (n5 := by rw [hr]; split <;> decide) (kt := fun z => ?_) (kf := fun z => ?_)
  rotate_left
  · have g : ¬ (0 ≤ march ∧ march < I 44 8) := fun y => z (by rw [hr, if_pos y]; decide)
    have g2 : ¬ ((0 ≤ march ∧ march < I 44 8) ∧ I 44 0 ≠ 0 ∧ I 44 21 ≠ 30) := fun t => g t.1
    rw [if_pos g, if_neg g2, u2_id] at k
    exact B_X12_which_8 hK (k := k I Fr.rf)
  have gm : 0 ≤ march ∧ march < I 44 8 := by
    by_cases y : 0 ≤ march ∧ march < I 44 8
    · exact y
    · rw [hr, if_neg y] at z
      exact absurd rfl z
  obtain ⟨m, rfl⟩ := Int.eq_ofNat_of_zero_le gm.1
  have gm2 : ¬ ¬ (0 ≤ (m : Int) ∧ (m : Int) < I 44 8) := fun t => t gm
  rw [if_neg gm2, Int.toNat_natCast] at k
  have out : (I 44 0 = 0 ∨ I 44 21 = 30) → K 27 [none, none, none, none, none, none] [] (sh, I, L) (0, 0) := fun t => by
    have t2 : ¬ ((0 ≤ (m : Int) ∧ (m : Int) < I 44 8) ∧ I 44 0 ≠ 0 ∧ I 44 21 ≠ 30) := fun u => t.elim u.2.1 u.2.2
    rw [if_pos t, if_neg t2, u2_id] at k
    exact B_X12_which_27 hK (k := k I Fr.rf)
  refine B_X12_which_11 hK hs (n15 := by omega) (kt := fun t => out (Or.inl t)) (kf := fun z3 => ?_)
  refine B_X12_which_18 hK hs (n24a := by omega) (kt := fun y => ?_) (kf := fun t => out (Or.inr (Classical.not_not.1 t)))
  have t1 : ¬ (I 44 0 = 0 ∨ I 44 21 = 30) := fun t => t.elim z3 y
  have t2 : (0 ≤ (m : Int) ∧ (m : Int) < I 44 8) ∧ I 44 0 ≠ 0 ∧ I 44 21 ≠ 30 := ⟨gm, z3, y⟩
  rw [if_neg t1, if_pos t2] at k
  refine B_X12_which_30 hK hs (k := ?_)
  generalize hx : I 44 21 + 1 = x at k ⊢
  have h' : mOK (u2 I 44 21 x) := h
  have hm' := h9 m gm.2
  refine s_load hs (by omega) (by show 0 ≤ I 47 m ∧ I 47 m ≤ 10; omega) (fun J1 F1 d1 d2 d3 => ?_)
  have F1' : FrQ (u2 I 44 21 x) J1 := F1.mono (by decide) (by decide)
  have ld : mLd (u2 I 44 21 x) J1 m := ⟨d1, d2, fun d hd => by
    unfold vS vM
    rw [if_pos hd, if_pos hd]
    exact d3 d hd⟩
  refine B_X12_which_45 hK (k := ?_)
  generalize hg : whS I m = g at k
  have lp : ∀ (n y : Nat) (J : Nat → Nat → Int), (y : Int) + n = I 44 14 → FrQ (u2 I 44 21 x) J → mLd (u2 I 44 21 x) J m → (-1 ≤ (whF g y).1 ∧ (whF g y).1 ≤ 8) → inR (whF g y).2.1 → inR (whF g y).2.2 → K 55 [some (vR 44), some (vI (m : Int)), some (vI (whF g y).1), some (vI (whF g y).2.1), some (vI (whF g y).2.2), some (vI (y : Int))] [] (sh, J, L) (0, 0) := by
    intro n
    induction n with
    | zero =>
      intro y J hn FJ lJ c1 c2 c3
      have e14 : J 44 14 = I 44 14 := FJ 44 14 (by decide) (by decide)
      refine B_X12_which_55 hK hs (n61a := by omega) (n61b := by omega) (kt := fun _ => ?_) (kf := fun t => absurd (by omega) t)
      have ey : (I 44 14).toNat = y := by omega
      rw [ey] at k
      exact B_X12_which_126 hK (k := k J FJ)
    | succ n ih =>
      intro y J hn FJ lJ c1 c2 c3
      have e14 : J 44 14 = I 44 14 := FJ 44 14 (by decide) (by decide)
      refine B_X12_which_55 hK hs (n61a := by omega) (n61b := by omega) (kt := fun t => absurd t (by omega)) (kf := fun _ => ?_)
      refine B_X12_which_64 hK hs (k := ?_)
      refine s_layQ hs h' FJ (show (y : Int) < I 44 14 by omega) gm.2 z3 lJ (by decide) (fun J2 q2 F2 => ?_)
      refine B_X12_which_71 hK hs (k := ?_)
      refine s_layMean hs h' q2 (fun J3 q3 v3 bd => ?_)
      have v4 : (J3 44 56, J3 44 57, J3 44 58) = mnS I m y := v3
      have eg : g y = (J3 44 56, J3 44 57) := by rw [← hg]; unfold whS; rw [← v4]
      have nx := ih (y + 1) J3 (by omega) q3.1 q3.2.2.1
      have i56 : inR (J3 44 56) := by omega
      have i57 : inR (J3 44 57) := by omega
      have up : ((whF g y).1 = -1 ∨ (g y).1 < (whF g y).2.1 ∨ ((g y).1 = (whF g y).2.1 ∧ (g y).2 < (whF g y).2.2)) → K 106 [some (vR 44), some (vI (m : Int)), none, none, none, some (vI (y : Int))] [] (sh, J3, L) (0, 0) := fun t => by
        have bq : whF g (y + 1) = ((y : Int), J3 44 56, J3 44 57) := by
          show (if _ then _ else _) = _
          rw [if_pos t, eg]
        rw [bq] at nx
        exact B_X12_which_106 hK hs (k := B_X12_which_120 hK (k := nx (by show -1 ≤ (y : Int) ∧ (y : Int) ≤ 8; omega) i56 i57))
      have st : ¬ ((whF g y).1 = -1 ∨ (g y).1 < (whF g y).2.1 ∨ ((g y).1 = (whF g y).2.1 ∧ (g y).2 < (whF g y).2.2)) → K 120 [some (vR 44), some (vI (m : Int)), some (vI (whF g y).1), some (vI (whF g y).2.1), some (vI (whF g y).2.2), some (vI (y : Int))] [] (sh, J3, L) (0, 0) := fun t => by
        have bq : whF g (y + 1) = whF g y := by
          show (if _ then _ else _) = _
          rw [if_neg t]
        rw [bq] at nx
        exact B_X12_which_120 hK (k := nx c1 c2 c3)
      rw [eg] at up st
      refine B_X12_which_76 hK (n78a := by omega) (kt := fun t => up (Or.inl t)) (kf := fun t => ?_)
      refine B_X12_which_81 hK hs (n86a := i56) (n86b := c2) (kt := fun t2 => up (Or.inr (Or.inl t2))) (kf := fun t2 => ?_)
      refine B_X12_which_89 hK hs (n94a := i56) (n94b := c2) (kt := fun t3 => st (fun u => u.elim t (fun u => u.elim t2 (fun u => t3 u.1)))) (kf := fun t3 => ?_)
      refine B_X12_which_97 hK hs (n103a := i57) (n103b := c3) (kt := fun t4 => st (fun u => u.elim t (fun u => u.elim t2 (fun u => by have := u.2; simp only at this; omega)))) (kf := fun t4 => up (Or.inr (Or.inr ⟨Classical.not_not.1 t3, by simp only; omega⟩)))
  exact lp (I 44 14).toNat 0 J1 (by omega) F1' ld (show (-1 : Int) ≤ -1 ∧ (-1 : Int) ≤ 8 by decide) (show inR 0 by decide) (show inR 0 by decide)
