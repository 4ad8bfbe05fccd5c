/-! the reference: image and restore, at -/
def flS (I : Nat → Nat → Int) : Nat → Int
  | 0 => 0
  | p + 1 => flS I p + I 45 p
theorem s_allFlour {sh : oS} {I : Nat → Nat → Int} {L : Nat → Nat → Int64} {Q : oQ} (hs : Sh sh) (h : 0 ≤ I 44 0 ∧ I 44 0 ≤ 8) (k : Q (some (vI (flS I (I 44 0).toNat))) (sh, I, L)) : T_X12_allFlour [vR 44] (sh, I, L) Q := by
  refine And.intro (Nat.le_of_ble_eq_true rfl) (fun K hK => ?_)
  refine B_X12_allFlour_0 hK (k := ?_)
  have lp : ∀ (n y : Nat), (y : Int) + n = I 44 0 → K 4 [some (vR 44), some (vI (flS I y)), some (vI (y : Int))] [] (sh, I, L) (0, 0) := by
    intro n
    induction n with
    | zero =>
      intro y hn
      refine B_X12_allFlour_4 hK hs (n9a := by omega) (n9b := by omega) (kt := fun _ => ?_) (kf := fun t => absurd (by omega) t)
      have ey : (I 44 0).toNat = y := by omega
      rw [ey] at k
      exact B_X12_allFlour_27 hK (k := k)
    | succ n ih =>
      intro y hn
      refine B_X12_allFlour_4 hK hs (n9a := by omega) (n9b := by omega) (kt := fun t => absurd t (by omega)) (kf := fun _ => ?_)
      exact B_X12_allFlour_12 hK hs (b18 := by omega) (k := ih (y + 1) (by omega))
  exact lp (I 44 0).toNat 0 (by omega)
theorem flS_cg {I J : Nat → Nat → Int} : ∀ n : Nat, (∀ p, p < n → J 45 p = I 45 p) → flS J n = flS I n
  | 0, _ => rfl
  | n + 1, h => by
    unfold flS
    rw [flS_cg n (fun p hp => h p (by omega)), h n (by omega)]
def imgV (I : Nat → Nat → Int) : Int := if I 44 0 = 0 then -103 else flS I (I 44 0).toNat
/-- copies of the first cells of an array -/
def cpN (I : Nat → Nat → Int) (a b : Nat) (n : Int) : Nat → Nat → Int := fun h k => if h = b ∧ (k : Int) < n then I a k else I h k
def imgI (I : Nat → Nat → Int) : Nat → Nat → Int := if I 44 0 = 0 then I else cpN (u2 (u2 I 44 22 1) 44 23 (I 44 7)) 45 57 (I 44 0)
theorem cpN_step {I J : Nat → Nat → Int} {a b y : Nat} (hab : a ≠ b) (e : J = cpN I a b y) : u2 J b y (J a y) = cpN I a b ((y + 1 : Nat) : Int) := by
  funext h k
  rw [e]
  unfold u2 cpN
  by_cases e1 : h = b
  · by_cases e2 : k = y
    · rw [if_pos e1, if_pos e2, if_neg (fun z => hab z.1), if_pos ⟨e1, by omega⟩, e2]
    · rw [if_pos e1, if_neg e2]
      by_cases e3 : (k : Int) < (y : Int)
      · rw [if_pos ⟨e1, e3⟩, if_pos ⟨e1, by omega⟩]
      · rw [if_neg (fun z => e3 z.2), if_neg (fun z => e3 (by omega))]
  · rw [if_neg e1, if_neg (fun z => e1 z.1), if_neg (fun z => e1 z.1)]
theorem cpN_ne {I : Nat → Nat → Int} {a b h k : Nat} {n : Int} (e : h ≠ b) : cpN I a b n h k = I h k := by
  unfold cpN
  rw [if_neg (fun z => e z.1)]
theorem s_mimage {sh : oS} {I : Nat → Nat → Int} {L : Nat → Nat → Int64} {Q : oQ} (hs : Sh sh) (h : mOK I) (k : Q (some (vI (imgV I))) (sh, imgI I, L)) : T_X12_image [vR 44] (sh, I, L) Q := by
  refine And.intro (Nat.le_of_ble_eq_true rfl) (fun K hK => ?_)
  have h1 := h.1
  unfold imgV imgI at k
  refine B_X12_image_0 hK hs (n4 := by omega) (kt := fun z => ?_) (kf := fun z => ?_)
  rotate_left
  · have z := Classical.not_not.1 z
    rw [if_pos z, if_pos z] at k
    exact B_X12_image_7 hK (k := k)
  rw [if_neg z, if_neg z] at k
  refine B_X12_image_10 hK hs (k := ?_)
  have e0 : u2 (u2 I 44 22 1) 44 23 (I 44 7) 44 0 = I 44 0 := rfl
  have e45 : ∀ p, u2 (u2 I 44 22 1) 44 23 (I 44 7) 45 p = I 45 p := fun _ => rfl
  generalize u2 (u2 I 44 22 1) 44 23 (I 44 7) = I1 at k e0 e45 ⊢
  have lp : ∀ (n y : Nat) (J : Nat → Nat → Int), (y : Int) + n = I 44 0 → J = cpN I1 45 57 y → K 25 [some (vR 44), some (vI (y : Int))] [] (sh, J, L) (0, 0) := by
    intro n
    induction n with
    | zero =>
      intro y J hn eJ
      have j0 : J 44 0 = I 44 0 := by rw [eJ, cpN_ne (by decide), e0]
      refine B_X12_image_25 hK hs (n30a := by omega) (n30b := by omega) (kt := fun _ => ?_) (kf := fun t => absurd (by omega) t)
      refine B_X12_image_51 hK hs (k := ?_)
      refine s_allFlour hs (by omega) ?_
      refine B_X12_image_55 hK (k := ?_)
      have ey : (y : Int) = I 44 0 := by omega
      rw [ey] at eJ
      rw [j0, flS_cg (I := I) (J := J) _ (fun p _ => by rw [eJ, cpN_ne (by decide), e45]), eJ]
      exact k
    | succ n ih =>
      intro y J hn eJ
      have j0 : J 44 0 = I 44 0 := by rw [eJ, cpN_ne (by decide), e0]
      refine B_X12_image_25 hK hs (n30a := by omega) (n30b := by omega) (kt := fun t => absurd t (by omega)) (kf := fun _ => ?_)
      refine B_X12_image_33 hK hs (b43 := by omega) (k := ?_)
      rw [Int.toNat_natCast]
      exact ih (y + 1) _ (by omega) (cpN_step (by decide) eJ)
  refine lp (I 44 0).toNat 0 I1 (by omega) ?_
  funext h k
  unfold cpN
  rw [if_neg (fun z => absurd z.2 (by omega))]
def resV (I : Nat → Nat → Int) : Int := if I 44 22 = 0 ∨ I 44 23 ≠ I 44 7 then -103 else flS (cpN I 57 45 (I 44 0)) (I 44 0).toNat
def resI (I : Nat → Nat → Int) : Nat → Nat → Int := if I 44 22 = 0 ∨ I 44 23 ≠ I 44 7 then I else cpN I 57 45 (I 44 0)
theorem s_mrestore {sh : oS} {I : Nat → Nat → Int} {L : Nat → Nat → Int64} {Q : oQ} (hs : Sh sh) (h : mOK I) (i1 : inR (I 44 22)) (i2 : inR (I 44 23)) (i3 : inR (I 44 7)) (k : Q (some (vI (resV I))) (sh, resI I, L)) : T_X12_restore [vR 44] (sh, I, L) Q := by
  refine And.intro (Nat.le_of_ble_eq_true rfl) (fun K hK => ?_)
  have h1 := h.1
  unfold resV resI at k
  have out : (I 44 22 = 0 ∨ I 44 23 ≠ I 44 7) → K 18 [none, none] [] (sh, I, L) (0, 0) := fun z => by
    rw [if_pos z, if_pos z] at k
    exact B_X12_restore_18 hK (k := k)
  refine B_X12_restore_0 hK hs (n4 := i1) (kt := fun z => out (Or.inl z)) (kf := fun z => ?_)
  refine B_X12_restore_7 hK hs (n15a := i2) (n15b := i3) (kt := fun z2 => ?_) (kf := fun z2 => out (Or.inr z2))
  have nz : ¬ (I 44 22 = 0 ∨ I 44 23 ≠ I 44 7) := fun t => t.elim z (fun t => t z2)
  rw [if_neg nz, if_neg nz] at k
  refine B_X12_restore_21 hK (k := ?_)
  have lp : ∀ (n y : Nat) (J : Nat → Nat → Int), (y : Int) + n = I 44 0 → J = cpN I 57 45 y → K 23 [some (vR 44), some (vI (y : Int))] [] (sh, J, L) (0, 0) := by
    intro n
    induction n with
    | zero =>
      intro y J hn eJ
      have j0 : J 44 0 = I 44 0 := by rw [eJ, cpN_ne (by decide)]
      refine B_X12_restore_23 hK hs (n28a := by omega) (n28b := by omega) (kt := fun _ => ?_) (kf := fun t => absurd (by omega) t)
      refine B_X12_restore_49 hK hs (k := ?_)
      refine s_allFlour hs (by omega) ?_
      refine B_X12_restore_53 hK (k := ?_)
      have ey : (y : Int) = I 44 0 := by omega
      rw [ey] at eJ
      rw [j0, eJ]
      exact k
    | succ n ih =>
      intro y J hn eJ
      have j0 : J 44 0 = I 44 0 := by rw [eJ, cpN_ne (by decide)]
      refine B_X12_restore_23 hK hs (n28a := by omega) (n28b := by omega) (kt := fun t => absurd t (by omega)) (kf := fun _ => ?_)
      refine B_X12_restore_31 hK hs (b41 := by omega) (k := ?_)
      rw [Int.toNat_natCast]
      exact ih (y + 1) _ (by omega) (cpN_step (by decide) eJ)
  refine lp (I 44 0).toNat 0 I (by omega) ?_
  funext h k
  unfold cpN
  rw [if_neg (fun z => absurd z.2 (by omega))]
def atV (I : Nat → Nat → Int) (march way day : Int) : Int := if ¬ (0 ≤ march ∧ march < I 44 8) ∨ ¬ (0 ≤ day ∧ day < I 47 march.toNat) then -101 else if I 44 0 = 0 then -103 else if ¬ (0 ≤ way ∧ way ≤ vOn I march.toNat) then -102 else colP (I 44 0) (vS I march.toNat) way day.toNat
theorem s_mat {sh : oS} {I : Nat → Nat → Int} {L : Nat → Nat → Int64} {Q : oQ} (hs : Sh sh) (h : mOK I) {march way day : Int} (hm : inR march) (hw : inR way) (hd : inR day) (k : ∀ J, FrQ I J → Q (some (vI (atV I march way day))) (sh, J, L)) : T_X12_at [vR 44, vI march, vI way, vI day] (sh, I, L) Q := by
  refine And.intro (Nat.le_of_ble_eq_true rfl) (fun K hK => ?_)
  obtain ⟨h1, h2, h3, h4, h5, h6, h7, h8, h9, h10, h11⟩ := id h
  unfold atV at k
  have unk : (¬ (0 ≤ march ∧ march < I 44 8) ∨ ¬ (0 ≤ day ∧ day < I 47 march.toNat)) → K 24 [none, none, none, none] [] (sh, I, L) (0, 0) := fun z => by
    rw [if_pos z] at k
    exact B_X12_at_24 hK (k := k I Fr.rf)
  refine B_X12_at_0 hK hs (k := ?_)
  refine s_isMarch2 hs hm (by omega) (fun r hr => ?_)
  refine B_X12_at_5 hK (n5 := by omega) (kt := fun z => unk (Or.inl (by omega))) (kf := fun z => ?_)
  have gm : 0 ≤ march ∧ march < I 44 8 := by omega
  have hm' := h9 march.toNat (by omega)
  refine B_X12_at_8 hK hs (b15 := by omega) (k := ?_)
  refine s_within2 hd (by decide) (by omega) (fun r2 hr2 => ?_)
  refine B_X12_at_21 hK (n21 := by omega) (kt := fun z2 => ?_) (kf := fun z2 => unk (Or.inr (by omega)))
  have gd : 0 ≤ day ∧ day < I 47 march.toNat := by omega
  have n1 : ¬ (¬ (0 ≤ march ∧ march < I 44 8) ∨ ¬ (0 ≤ day ∧ day < I 47 march.toNat)) := fun t => t.elim (fun t => t gm) (fun t => t gd)
  rw [if_neg n1] at k
  refine B_X12_at_27 hK hs (n31 := by omega) (kt := fun z3 => ?_) (kf := fun z3 => ?_)
  rotate_left
  · rw [if_pos (Classical.not_not.1 z3)] at k
    exact B_X12_at_34 hK (k := k I Fr.rf)
  rw [if_neg z3] at k
  refine B_X12_at_37 hK hs (k := ?_)
  obtain ⟨m, rfl⟩ := Int.eq_ofNat_of_zero_le gm.1
  rw [Int.toNat_natCast] at k gd hm'
  refine s_load hs (by omega) (by omega) (fun J1 F1 d1 d2 d3 => ?_)
  refine B_X12_at_42 hK hs (k := ?_)
  refine s_allOn hs ?_
  have eo : fShl 1 (J1 44 39) - 1 = vOn I m := by rw [d2]; rfl
  rw [eo]
  have on := vOn_bd hm'.2.1
  refine B_X12_at_48 hK (k := ?_)
  refine s_within2 hw (by decide) (by omega) (fun r3 hr3 => ?_)
  refine B_X12_at_51 hK (n51 := by omega) (kt := fun z4 => ?_) (kf := fun z4 => ?_)
  rotate_left
  · have n2 : ¬ (0 ≤ way ∧ way ≤ vOn I m) := by omega
    rw [if_pos n2] at k
    exact B_X12_at_54 hK (k := k J1 (F1.mono (by decide) (by decide)))
  have n2 : ¬ ¬ (0 ≤ way ∧ way ≤ vOn I m) := by omega
  rw [if_neg n2] at k
  have e0 : J1 44 0 = I 44 0 := F1 44 0 (by decide) (by decide)
  refine B_X12_at_57 hK hs (k := ?_)
  refine s_mwalk hs (D := (I 47 m).toNat) (by omega) (by omega) (by omega) (fun d hd => ?_) (fun J2 F2 C2 => ?_)
  · have a := (d3 d (by omega)).1
    have b := (hm'.2.2.1 d (by omega)).1
    omega
  refine B_X12_at_62 hK hs (b67 := by omega) (k := ?_)
  rw [C2 day.toNat (by omega), e0, colP_cg (D := (I 47 m).toNat) (S' := vS I m) (fun d hd => by rw [(d3 d (by omega)).1]; unfold vS; rw [if_pos (by omega)]) (by omega)]
  exact k J2 (F1.tr F2 (by decide) (by decide) (by decide) (by decide))
