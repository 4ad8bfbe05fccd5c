/-! the reference: tell -/
abbrev FrC (I J : Nat → Nat → Int) : Prop := Fr [52, 53, 54, 55, 58, 59, 60, 61, 62, 63, 64] [(44, 14), (44, 19), (44, 25), (44, 26), (44, 27), (44, 31), (44, 35), (44, 37)] I J
/-- a told plan has been read and stands -/
def telJ (I J : Nat → Nat → Int) (s : seS) : Prop := FrC I J ∧ J 44 14 = I 44 14 + 1 ∧ J 44 19 = 0 ∧ J 52 = up (I 52) (I 44 14).toNat 4 ∧ J 53 = up (I 53) (I 44 14).toNat 0 ∧ J 54 = up (I 54) (I 44 14).toNat 0 ∧ (∀ x : Nat, J 55 x = if 18 * (I 44 14).toNat ≤ x ∧ x < 18 * (I 44 14).toNat + 18 then (if ((x - 18 * (I 44 14).toNat : Nat) : Int) < 3 * s.2.1 then s.2.2 (x - 18 * (I 44 14).toNat) else -1) else I 55 x)
set_option maxHeartbeats 1000000 in
theorem s_mtell {sh : oS} {I : Nat → Nat → Int} {L : Nat → Nat → Int64} {Q : oQ} (hs : Sh sh) (h14 : 0 ≤ I 44 14 ∧ I 44 14 ≤ 8) (hpg : 0 ≤ I 44 19 ∧ I 44 19 ≤ 60) (hlt : ∀ x : Nat, (x : Int) < I 44 19 → 0 ≤ I 56 x ∧ I 56 x ≤ 127)
    (k1 : ∀ J (n : Nat) (s : seS), FrR I J → rdEnd seStep (se0 I) (I 56) (I 44 19).toNat n s → ¬ ((n : Int) = I 44 19 ∧ seE s) → Q (some (vI (-103))) (sh, J, L))
    (k2 : ∀ J (n : Nat) (s : seS), FrR I J → rdEnd seStep (se0 I) (I 56) (I 44 19).toNat n s → ((n : Int) = I 44 19 ∧ seE s) → I 44 14 = 8 → Q (some (vI (-104))) (sh, J, L))
    (k3 : ∀ J (n : Nat) (s : seS), telJ I J s → rdEnd seStep (se0 I) (I 56) (I 44 19).toNat n s → ((n : Int) = I 44 19 ∧ seE s) → I 44 14 ≠ 8 → seOK s → Q (some (vI (I 44 14))) (sh, J, L)) : T_X12_tell [vR 44] (sh, I, L) Q := by
  refine And.intro (Nat.le_of_ble_eq_true rfl) (fun K hK => ?_)
  refine B_X12_tell_0 hK hs (k := ?_)
  refine s_readPage2 hs hpg hlt (fun J n s F hE j1 j2 ok hR => ?_)
  refine B_X12_tell_5 hK hs (n9 := by rw [j2]; split <;> decide) (kt := fun z => ?_) (kf := fun z => ?_)
  rotate_left
  · refine B_X12_tell_12 hK (k := k1 J n s F hE (fun u => ?_))
    rw [j2, if_pos u] at z
    exact z (by decide)
  have u : (n : Int) = I 44 19 ∧ seE s := by
    by_cases u : (n : Int) = I 44 19 ∧ seE s
    · exact u
    · rw [j2, if_neg u] at z
      exact absurd rfl z
  have e14 : J 44 14 = I 44 14 := F 44 14 (by decide) (by decide)
  refine B_X12_tell_15 hK hs (n21a := by omega) (kt := fun z2 => ?_) (kf := fun z2 => ?_)
  rotate_left
  · exact B_X12_tell_24 hK (k := k2 J n s F hE u (by omega))
  rw [e14] at z2
  obtain ⟨q1, q2⟩ := hR (by rw [j2, if_pos u])
  obtain ⟨o1, o2, o3, o4⟩ := id ok
  obtain ⟨M, eM⟩ : ∃ M : Nat, I 44 14 = (M : Int) := ⟨(I 44 14).toNat, by omega⟩
  have eM2 : (I 44 14).toNat = M := by omega
  unfold telJ at k3
  rw [eM2] at k3
  refine B_X12_tell_27 hK hs (b36 := by omega) (k := ?_)
  rw [e14, eM2]
  have lp : ∀ (m y : Nat) (J2 : Nat → Nat → Int), y + m = 18 → FrC I J2 → J2 44 14 = I 44 14 → J2 44 27 = s.2.1 → J2 64 = s.2.2 → J2 52 = up (I 52) M 4 → J2 53 = up (I 53) M 0 → J2 54 = up (I 54) M 0 → (∀ x : Nat, J2 55 x = if 18 * M ≤ x ∧ x < 18 * M + y then (fun i : Nat => if (i : Int) < 3 * s.2.1 then s.2.2 i else -1) (x - 18 * M) else I 55 x) → K 59 [some (vR 44), some (vI (y : Int))] [] (sh, J2, L) (0, 0) := by
    intro m
    induction m with
    | zero =>
      intro y J2 hn FJ a14 a27 a64 a52 a53 a54 a55
      refine B_X12_tell_59 hK (n62a := by omega) (kt := fun _ => ?_) (kf := fun t => absurd (by omega) t)
      refine B_X12_tell_105 hK hs (k := ?_)
      have ey : y = 18 := by omega
      subst ey
      rw [a14, show I 44 14 + 1 - 1 = I 44 14 by omega]
      exact k3 _ n s ⟨(FJ.u 44 14 _ (by simp)).u 44 19 _ (by simp), rfl, rfl, a52, a53, a54, a55⟩ hE u z2 ok
    | succ m ih =>
      intro y J2 hn FJ a14 a27 a64 a52 a53 a54 a55
      refine B_X12_tell_59 hK (n62a := by omega) (kt := fun t => absurd t (by omega)) (kf := fun _ => ?_)
      have t98 : ∀ v, v = (fun i : Nat => if (i : Int) < 3 * s.2.1 then s.2.2 i else -1) y → K 98 [some (vR 44), some (vI (y : Int))] [vI v, vI (18 * J2 44 14 + (y : Int)), vR 55] (sh, J2, L) (0, 0) := by
        intro v hv
        refine B_X12_tell_98 hK hs (b98 := by omega) (k := ?_)
        rw [show (18 * J2 44 14 + (y : Int)).toNat = 18 * M + y by omega, hv]
        refine ih (y + 1) _ (by omega) (FJ.u 55 _ _ (by simp)) a14 a27 a64 a52 a53 a54 ?_
        rw [u2_row]
        exact wr_step (h := fun i : Nat => if (i : Int) < 3 * s.2.1 then s.2.2 i else -1) a55
      refine B_X12_tell_65 hK hs (n85a := by omega) (n85b := by omega) (kt := fun t => ?_) (kf := fun t => ?_)
      · exact B_X12_tell_97 hK (k := t98 (-1) (by dsimp only; rw [if_neg (by omega)]))
      · refine B_X12_tell_88 hK hs (b93 := by omega) (k := ?_)
        rw [Int.toNat_natCast, a64]
        exact t98 _ (by dsimp only; rw [if_pos (by omega)])
  refine lp 18 0 _ (by omega) ((((F.mono (by decide) (by decide)).u 52 _ _ (by simp)).u 53 _ _ (by simp)).u 54 _ _ (by simp)) e14 q1 q2 ?_ ?_ ?_ (fun x => ?_)
  · rw [u2_oth (by decide), u2_oth (by decide), u2_row, fn_eq F 52 (by decide) (by decide)]
  · rw [u2_oth (by decide), u2_row, u2_oth (by decide), fn_eq F 53 (by decide) (by decide)]
  · rw [u2_row, u2_oth (by decide), u2_oth (by decide), fn_eq F 54 (by decide) (by decide)]
  · rw [if_neg (fun w => by omega)]
    exact F 55 x (by decide) (by simp)
