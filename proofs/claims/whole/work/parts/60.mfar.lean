/-! the reference: how far it can go -/
def faM (I : Nat → Nat → Int) (men : Int) (d : Nat) : Int := if (d : Int) < I 44 0 - 1 then men else 0
def faS (I : Nat → Nat → Int) (d : Nat) : Int := if (d : Int) < I 44 0 - 1 then 1 else 0
noncomputable def faR (I : Nat → Nat → Int) (p : Nat) (men : Int) : List stT := rawL (I 44 0) (vF I) (vW I) (I 44 3) (I 44 4) (I 44 5) (I 44 0 - 1) (faM I men) (faS I) 0 (I 52 p) (I 53 p) (I 54 p) (fun x => I 55 (18 * p + x))
noncomputable def faE (I : Nat → Nat → Int) (p : Nat) (men : Int) (d : Nat) : Int := (evL (I 44 0) d (vF I) (faM I men) (colP (I 44 0) (faS I) 0) (faR I p men) (I 44 3) (I 44 4) (I 44 5) 0).1
noncomputable def frF (h : Nat → Int) : Nat → Int
  | 0 => 0
  | d + 1 => if h d = 0 then (d : Int) + 1 else frF h d
noncomputable def farV (I : Nat → Nat → Int) (plan men : Int) : Int := if ¬ (0 ≤ plan ∧ plan < I 44 14) then -101 else if I 44 0 = 0 then -103 else if ¬ (1 ≤ men ∧ men ≤ 99) then -102 else if I 44 21 = 30 then -103 else frF (faE I plan.toNat men) (I 44 0 - 1).toNat
def farA (I : Nat → Nat → Int) (plan men : Int) : Int := if (0 ≤ plan ∧ plan < I 44 14) ∧ I 44 0 ≠ 0 ∧ (1 ≤ men ∧ men ≤ 99) ∧ I 44 21 ≠ 30 then I 44 21 + 1 else I 44 21
theorem frF_bd {h : Nat → Int} : ∀ d : Nat, 0 ≤ frF h d ∧ frF h d ≤ d
  | 0 => by simp [frF]
  | d + 1 => by
    have := frF_bd (h := h) d
    unfold frF
    split <;> omega
set_option maxHeartbeats 1000000 in
theorem s_mfar {sh : oS} {I : Nat → Nat → Int} {L : Nat → Nat → Int64} {Q : oQ} (hs : Sh sh) {plan men : Int} (h : mOK I) (hq : 0 ≤ I 44 21 ∧ I 44 21 ≤ 30) (hp : inR plan) (hm : inR men)
    (k : ∀ J, FrQ (u2 I 44 21 (farA I plan men)) J → Q (some (vI (farV I plan men))) (sh, J, L)) : T_X12_far [vR 44, vI plan, vI men] (sh, I, L) Q := by
  refine And.intro (Nat.le_of_ble_eq_true rfl) (fun K hK => ?_)
  obtain ⟨h1, h2, h3, h4, h5, h6, h7, h8, h9, h10, h11⟩ := id h
  unfold farV farA at k
  refine B_X12_far_0 hK hs (k := ?_)
  refine s_isPlan hs hp (by omega) (fun r hr => ?_)
  refine B_X12_far_5 hK (n5 := by rw [hr]; split <;> decide) (kt := fun z => ?_) (kf := fun z => ?_)
  rotate_left
  · have g : ¬ (0 ≤ plan ∧ plan < I 44 14) := fun y => z (by rw [hr, if_pos y]; decide)
    have g2 : ¬ ((0 ≤ plan ∧ plan < I 44 14) ∧ I 44 0 ≠ 0 ∧ (1 ≤ men ∧ men ≤ 99) ∧ I 44 21 ≠ 30) := fun t => g t.1
    rw [if_pos g, if_neg g2, u2_id] at k
    exact B_X12_far_8 hK (k := k I Fr.rf)
  have gp : 0 ≤ plan ∧ plan < I 44 14 := by
    by_cases y : 0 ≤ plan ∧ plan < I 44 14
    · exact y
    · rw [hr, if_neg y] at z
      exact absurd rfl z
  obtain ⟨p, rfl⟩ := Int.eq_ofNat_of_zero_le gp.1
  have gp2 : ¬ ¬ (0 ≤ (p : Int) ∧ (p : Int) < I 44 14) := fun t => t gp
  rw [if_neg gp2, Int.toNat_natCast] at k
  refine B_X12_far_11 hK hs (n15 := by omega) (kt := fun z3 => ?_) (kf := fun z3 => ?_)
  rotate_left
  · have z3 := Classical.not_not.1 z3
    have t2 : ¬ ((0 ≤ (p : Int) ∧ (p : Int) < I 44 14) ∧ I 44 0 ≠ 0 ∧ (1 ≤ men ∧ men ≤ 99) ∧ I 44 21 ≠ 30) := fun t => t.2.1 z3
    rw [if_pos z3, if_neg t2, u2_id] at k
    exact B_X12_far_18 hK (k := k I Fr.rf)
  rw [if_neg z3] at k
  refine B_X12_far_21 hK (k := ?_)
  refine s_within hm (by decide) (by decide) (fun r2 hr2 => ?_)
  refine B_X12_far_28 hK (n28 := by rw [hr2]; split <;> decide) (kt := fun z => ?_) (kf := fun z => ?_)
  rotate_left
  · have g : ¬ (1 ≤ men ∧ men ≤ 99) := fun y => z (by rw [hr2, if_pos y]; decide)
    have t2 : ¬ ((0 ≤ (p : Int) ∧ (p : Int) < I 44 14) ∧ I 44 0 ≠ 0 ∧ (1 ≤ men ∧ men ≤ 99) ∧ I 44 21 ≠ 30) := fun t => g t.2.2.1
    rw [if_pos g, if_neg t2, u2_id] at k
    exact B_X12_far_31 hK (k := k I Fr.rf)
  have gm : 1 ≤ men ∧ men ≤ 99 := by
    by_cases y : 1 ≤ men ∧ men ≤ 99
    · exact y
    · rw [hr2, if_neg y] at z
      exact absurd rfl z
  have gm2 : ¬ ¬ (1 ≤ men ∧ men ≤ 99) := fun t => t gm
  rw [if_neg gm2] at k
  refine B_X12_far_34 hK hs (n40a := by omega) (kt := fun y => ?_) (kf := fun y => ?_)
  rotate_left
  · have y := Classical.not_not.1 y
    have t2 : ¬ ((0 ≤ (p : Int) ∧ (p : Int) < I 44 14) ∧ I 44 0 ≠ 0 ∧ (1 ≤ men ∧ men ≤ 99) ∧ I 44 21 ≠ 30) := fun t => t.2.2.2 y
    rw [if_pos y, if_neg t2, u2_id] at k
    exact B_X12_far_43 hK (k := k I Fr.rf)
  have t2 : (0 ≤ (p : Int) ∧ (p : Int) < I 44 14) ∧ I 44 0 ≠ 0 ∧ (1 ≤ men ∧ men ≤ 99) ∧ I 44 21 ≠ 30 := ⟨gp, z3, gm, y⟩
  rw [if_neg y, if_pos t2] at k
  refine B_X12_far_46 hK hs (k := ?_)
  generalize hx : I 44 21 + 1 = x at k ⊢
  obtain ⟨P, eP⟩ : ∃ P : Nat, I 44 0 = (P : Int) := ⟨(I 44 0).toNat, by omega⟩
  have hP : 2 ≤ P ∧ P ≤ 8 := by omega
  have hl : ∀ J d, FrQ (u2 I 44 21 x) J → J 44 38 = I 44 0 - 1 → J 44 39 = 0 → (d : Nat) = P - 1 → (∀ d : Nat, (d : Int) < I 44 0 - 1 → J 65 d = faS I d ∧ J 66 d = faM I men d) → K 101 [some (vR 44), some (vI (p : Int)), none, none, none] [] (sh, J, L) (0, 0) := by
    intro J D FJ d1 d2 eD d3
    have e0 : J 44 0 = I 44 0 := FJ 44 0 (by decide) (by decide)
    have e3 : J 44 3 = I 44 3 := FJ 44 3 (by decide) (by decide)
    have e4 : J 44 4 = I 44 4 := FJ 44 4 (by decide) (by decide)
    have e5 : J 44 5 = I 44 5 := FJ 44 5 (by decide) (by decide)
    have e45 : J 45 = I 45 := fn_eq FJ 45 (by decide) (by decide)
    have e46 : J 46 = I 46 := fn_eq FJ 46 (by decide) (by decide)
    have e52 : J 52 = I 52 := fn_eq FJ 52 (by decide) (by decide)
    have e53 : J 53 = I 53 := fn_eq FJ 53 (by decide) (by decide)
    have e54 : J 54 = I 54 := fn_eq FJ 54 (by decide) (by decide)
    have e55 : J 55 = I 55 := fn_eq FJ 55 (by decide) (by decide)
    have hpk : pOK (I 52 p) (I 53 p) (I 54 p) (fun x => I 55 (18 * p + x)) := (h11 p gp.2).2
    have go : mGo J P D := by
      refine ⟨by omega, by omega, by omega, by omega, by omega, by omega, by omega, by omega, fun x hx => ?_, fun d hd => ?_, fun d hd => ?_, fun x hx => ?_⟩
      · rw [e45]
        have := h6 x (by omega)
        omega
      · have a := (d3 d (by omega)).1
        unfold faS at a
        rw [if_pos (by omega)] at a
        omega
      · have a := (d3 d (by omega)).2
        unfold faM at a
        rw [if_pos (by omega)] at a
        omega
      · rw [e46]
        have := h7 x hx
        omega
    refine B_X12_far_101 hK hs (k := ?_)
    refine s_layStands hs go (by omega) (p := p) (by omega) (by rw [e52, e53, e54, e55, Int.add_zero]; exact hpk) (fun J2 l F2 m2 p2 w2 => ?_)
    rw [e0, e3, e4, e5, e45, e46, e52, e53, e54, e55, d1, d2, Int.add_zero] at p2
    have q : faR I p men = rawL (I 44 0) (I 45) (I 46) (I 44 3) (I 44 4) (I 44 5) (I 44 0 - 1) (J 66) (J 65) (fShl 1 0 - 1) (I 52 p) (I 53 p) (I 54 p) (fun x => I 55 (18 * p + x)) := by
      unfold faR
      have nn : I 44 0 - 1 = ((P - 1 : Nat) : Int) := by omega
      rw [nn, show fShl 1 0 - 1 = 0 by decide]
      obtain ⟨⟨o1, o1'⟩, o2, o3, o4, o5⟩ := hpk
      exact rawL_cg (D := P - 1) (by omega) (by omega) (fun y0 y3 y4 => by have := o4 (by omega); omega) (fun x hx => by unfold vF; rw [if_pos hx]) (fun x hx => by unfold vW; rw [if_pos hx]) (fun d hd => (d3 d (by omega)).2.symm) (fun d hd => (d3 d (by omega)).1.symm) (fun _ _ => rfl)
    rw [← q] at p2
    have rok := rawL_ok (P := I 44 0) (D := I 44 0 - 1) (way := 0) (bk := I 44 3) (bd := I 44 4) (kp := I 44 5) (F := vF I) (wd := vW I) (men := faM I men) (S := faS I) hpk (by omega) (by omega)
    refine B_X12_far_107 hK (k := ?_)
    have lp : ∀ (n y : Nat) (J3 : Nat → Nat → Int), (y : Int) + n = I 44 0 - 1 → FrQ (u2 I 44 21 x) J3 → J3 44 38 = I 44 0 - 1 → (∀ d : Nat, (d : Int) < I 44 0 - 1 → J3 65 d = faS I d ∧ J3 66 d = faM I men d) → mLs J3 l → K 112 [some (vR 44), none, none, some (vI (frF (faE I p men) y)), some (vI (y : Int))] [] (sh, J3, L) (0, 0) := by
      intro n
      induction n with
      | zero =>
        intro y J3 hn F3 c1 c2 c3
        refine B_X12_far_112 hK hs (n118a := by omega) (n118b := by omega) (kt := fun _ => ?_) (kf := fun t => absurd (by omega) t)
        have ey : (I 44 0 - 1).toNat = y := by omega
        rw [ey] at k
        exact B_X12_far_151 hK (k := k J3 F3)
      | succ n ih =>
        intro y J3 hn F3 c1 c2 c3
        refine B_X12_far_112 hK hs (n118a := by omega) (n118b := by omega) (kt := fun t => absurd t (by omega)) (kf := fun _ => ?_)
        refine B_X12_far_121 hK hs (k := ?_)
        have g0 : J3 44 0 = I 44 0 := F3 44 0 (by decide) (by decide)
        have g3 : J3 44 3 = I 44 3 := F3 44 3 (by decide) (by decide)
        have g4 : J3 44 4 = I 44 4 := F3 44 4 (by decide) (by decide)
        have g5 : J3 44 5 = I 44 5 := F3 44 5 (by decide) (by decide)
        have g45 : J3 45 = I 45 := fn_eq F3 45 (by decide) (by decide)
        have g46 : J3 46 = I 46 := fn_eq F3 46 (by decide) (by decide)
        have go3 : mGo J3 P D := by
          refine ⟨by omega, by omega, by omega, by omega, by omega, by omega, by omega, by omega, fun x hx => ?_, fun d hd => ?_, fun d hd => ?_, fun x hx => ?_⟩
          · rw [g45]
            have := h6 x (by omega)
            omega
          · have a := (c2 d (by omega)).1
            unfold faS at a
            rw [if_pos (by omega)] at a
            omega
          · have a := (c2 d (by omega)).2
            unfold faM at a
            rw [if_pos (by omega)] at a
            omega
          · rw [g46]
            have := h7 x hx
            omega
        refine s_mflowL hs go3 c3 (by rw [← p2.length_eq]; exact rok.2) (by
          have := rok.1.pm p2
          rw [← eP, show ((D : Nat) : Int) = I 44 0 - 1 by omega]
          exact this) (by omega) (by decide) (fun J4 F4 C4 v4 r1 r2 => ?_)
        have v5 : J4 44 54 = faE I p men y := by
          have := congrArg Prod.fst v4
          refine this.trans ?_
          unfold faE
          rw [evL_pm p2, g0, g3, g4, g5, g45]
          refine (congrArg Prod.fst (evL_cg (fun x hx => by unfold vF; rw [if_pos hx]) (fun u hu => ?_) (fun u hu => ?_))).symm
          · exact (c2 u (by omega)).2.symm
          · exact colP_cg (D := P - 1) (fun d hd => (c2 d (by omega)).1.symm) (by omega)
        have nx := ih (y + 1) J4 (by omega) (F3.tr F4 (by decide) (by decide) (by decide) (by decide)) (by rw [F4 44 38 (by decide) (by decide)]; exact c1) (fun d hd => by rw [F4 65 d (by decide) (by simp), F4 66 d (by decide) (by simp)]; exact c2 d hd) ⟨by rw [F4 44 43 (by decide) (by decide)]; exact c3.1, fun i hi => by rw [F4 68 i (by decide) (by simp), F4 69 i (by decide) (by simp), F4 70 i (by decide) (by simp)]; exact c3.2 i hi⟩
        unfold frF at nx
        refine B_X12_far_129 hK hs (n133 := r1) (kt := fun t => ?_) (kf := fun t => ?_)
        · rw [v5] at t
          rw [if_neg t] at nx
          exact B_X12_far_143 hK (k := B_X12_far_144 hK (k := nx))
        · have t := Classical.not_not.1 t
          rw [v5] at t
          rw [if_pos t] at nx
          exact B_X12_far_136 hK (k := B_X12_far_144 hK (k := nx))
    exact lp (I 44 0 - 1).toNat 0 J2 (by omega) (FJ.tr F2 (by decide) (by decide) (by decide) (by decide)) (by rw [F2 44 38 (by decide) (by decide)]; exact d1) (fun d hd => by rw [F2 65 d (by decide) (by simp), F2 66 d (by decide) (by simp)]; exact d3 d hd) m2
  have lp0 : ∀ (n y : Nat) (J : Nat → Nat → Int), (y : Int) + n = I 44 0 - 1 → FrQ (u2 I 44 21 x) J → J 44 38 = I 44 0 - 1 → J 44 39 = 0 → (∀ d : Nat, d < y → J 65 d = 1 ∧ J 66 d = men) → K 73 [some (vR 44), some (vI (p : Int)), some (vI men), some (vI (y : Int)), none] [] (sh, J, L) (0, 0) := by
    intro n
    induction n with
    | zero =>
      intro y J hn FJ d1 d2 d3
      refine B_X12_far_73 hK hs (n78a := by omega) (n78b := by omega) (kt := fun _ => ?_) (kf := fun t => absurd (by omega) t)
      refine hl J (P - 1) FJ d1 d2 rfl (fun d hd => ?_)
      unfold faS faM
      rw [if_pos hd, if_pos hd]
      exact d3 d (by omega)
    | succ n ih =>
      intro y J hn FJ d1 d2 d3
      refine B_X12_far_73 hK hs (n78a := by omega) (n78b := by omega) (kt := fun t => absurd t (by omega)) (kf := fun _ => ?_)
      refine B_X12_far_81 hK hs (b87 := by omega) (k := ?_)
      rw [Int.toNat_natCast]
      refine ih (y + 1) _ (by omega) ((FJ.u 65 y 1 (by simp)).u 66 y men (by simp)) d1 d2 (fun d hd => ?_)
      by_cases e : d = y
      · subst e
        exact ⟨by simp [u2], by simp [u2]⟩
      · have := d3 d (by omega)
        simp [u2, e, this]
  refine lp0 (I 44 0 - 1).toNat 0 _ (by omega) ((Fr.rf.u 44 38 _ (by simp)).u 44 39 _ (by simp)) rfl rfl (fun d hd => absurd hd (by omega))
