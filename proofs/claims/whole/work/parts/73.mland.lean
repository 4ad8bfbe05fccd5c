/-! the reference: fault, land -/
def fauR (I : Nat → Nat → Int) (sort r : Int) : Prop := (sort = 0 ∧ ∃ (n : Nat) (s : laS), rdEnd laStep (la0 I) (I 56) (I 44 19).toNat n s ∧ r = n) ∨ (sort = 1 ∧ ∃ (n : Nat) (s : maS), rdEnd maStep (ma0 I) (I 56) (I 44 19).toNat n s ∧ r = n) ∨ (sort = 2 ∧ ∃ (n : Nat) (s : seS), rdEnd seStep (se0 I) (I 56) (I 44 19).toNat n s ∧ r = n) ∨ (¬ (0 ≤ sort ∧ sort ≤ 2) ∧ r = -102)
theorem s_mfault {sh : oS} {I : Nat → Nat → Int} {L : Nat → Nat → Int64} {Q : oQ} (hs : Sh sh) {sort : Int} (hso : inR sort) (hpg : 0 ≤ I 44 19 ∧ I 44 19 ≤ 60) (hlt : ∀ x : Nat, (x : Int) < I 44 19 → 0 ≤ I 56 x ∧ I 56 x ≤ 127)
    (k : ∀ r J, FrR I J → fauR I sort r → Q (some (vI r)) (sh, J, L)) : T_X12_fault [vR 44, vI sort] (sh, I, L) Q := by
  refine And.intro (Nat.le_of_ble_eq_true rfl) (fun K hK => ?_)
  refine B_X12_fault_0 hK (k := ?_)
  refine s_within2 hso (by decide) (by decide) (fun r hr => ?_)
  refine B_X12_fault_6 hK (n6 := by omega) (kt := fun z => ?_) (kf := fun z => ?_)
  · refine B_X12_fault_12 hK hs (k := ?_)
    have cs : sort = 0 ∨ sort = 1 ∨ sort = 2 := by omega
    rcases cs with e | e | e
    · subst e
      refine s_readPage0 hs hpg hlt (fun J n s F hE j1 j2 ok hR => ?_)
      exact B_X12_fault_17 hK hs (k := k _ J F (Or.inl ⟨rfl, n, s, hE, j1⟩))
    · subst e
      refine s_readPage1 hs hpg hlt (fun J n s F hE j1 j2 ok hR => ?_)
      exact B_X12_fault_17 hK hs (k := k _ J F (Or.inr (Or.inl ⟨rfl, n, s, hE, j1⟩)))
    · subst e
      refine s_readPage2 hs hpg hlt (fun J n s F hE j1 j2 ok hR => ?_)
      exact B_X12_fault_17 hK hs (k := k _ J F (Or.inr (Or.inr (Or.inl ⟨rfl, n, s, hE, j1⟩))))
  · exact B_X12_fault_9 hK (k := k _ I Fr.rf (Or.inr (Or.inr (Or.inr ⟨by omega, rfl⟩))))
abbrev FrA (I J : Nat → Nat → Int) : Prop := Fr [45, 46, 58, 59, 60, 61, 62, 63, 64] [(44, 0), (44, 3), (44, 4), (44, 5), (44, 6), (44, 7), (44, 19), (44, 25), (44, 26), (44, 27), (44, 31), (44, 35), (44, 37)] I J
/-- a land has been read and stands -/
def lanJ (I J : Nat → Nat → Int) (s : laS) : Prop := FrA I J ∧ J 44 0 = s.2.1 ∧ (∀ p : Nat, J 45 p = if (p : Int) < s.2.1 then s.2.2.1 p else I 45 p) ∧ (∀ p : Nat, J 46 p = if (p : Int) < s.2.1 then s.2.2.2.1 p else I 46 p) ∧ J 44 3 = s.2.2.2.2 0 ∧ J 44 4 = s.2.2.2.2 1 ∧ J 44 5 = s.2.2.2.2 2 ∧ J 44 6 = s.2.2.2.2 3 ∧ J 44 7 = I 44 7 + 1 ∧ J 44 19 = 0
theorem s_mland {sh : oS} {I : Nat → Nat → Int} {L : Nat → Nat → Int64} {Q : oQ} (hs : Sh sh) (hpg : 0 ≤ I 44 19 ∧ I 44 19 ≤ 60) (hlt : ∀ x : Nat, (x : Int) < I 44 19 → 0 ≤ I 56 x ∧ I 56 x ≤ 127)
    (k1 : ∀ J (n : Nat) (s : laS), FrR I J → rdEnd laStep (la0 I) (I 56) (I 44 19).toNat n s → ¬ ((n : Int) = I 44 19 ∧ laE s) → Q (some (vI (-103))) (sh, J, L))
    (k2 : ∀ J (n : Nat) (s : laS), lanJ I J s → rdEnd laStep (la0 I) (I 56) (I 44 19).toNat n s → ((n : Int) = I 44 19 ∧ laE s) → laOK s → Q (some (vI s.2.1)) (sh, J, L)) : T_X12_land [vR 44] (sh, I, L) Q := by
  refine And.intro (Nat.le_of_ble_eq_true rfl) (fun K hK => ?_)
  refine B_X12_land_0 hK hs (k := ?_)
  refine s_readPage0 hs hpg hlt (fun J n s F hE j1 j2 ok hR => ?_)
  refine B_X12_land_5 hK hs (n9 := by rw [j2]; split <;> decide) (kt := fun z => ?_) (kf := fun z => ?_)
  rotate_left
  · refine B_X12_land_12 hK (k := k1 J n s F hE (fun u => ?_))
    rw [j2, if_pos u] at z
    exact z (by decide)
  have u : (n : Int) = I 44 19 ∧ laE s := by
    by_cases u : (n : Int) = I 44 19 ∧ laE s
    · exact u
    · rw [j2, if_neg u] at z
      exact absurd rfl z
  obtain ⟨q1, q2, q3, q4⟩ := hR (by rw [j2, if_pos u])
  obtain ⟨o1, o2, o3, o4, o5, o6, o7⟩ := id ok
  refine B_X12_land_15 hK hs (k := ?_)
  rw [q1]
  have lp : ∀ (m y : Nat) (J2 : Nat → Nat → Int), (y : Int) + m = s.2.1 → FrA I J2 → J2 44 0 = s.2.1 → (∀ p : Nat, J2 45 p = if p < y then s.2.2.1 p else I 45 p) → (∀ p : Nat, J2 46 p = if p < y then s.2.2.2.1 p else I 46 p) → J2 58 = s.2.2.1 → J2 59 = s.2.2.2.1 → J2 60 = s.2.2.2.2 → J2 44 7 = I 44 7 → K 25 [some (vR 44), some (vI (y : Int))] [] (sh, J2, L) (0, 0) := by
    intro m
    induction m with
    | zero =>
      intro y J2 hn FJ e0 e45 e46 e58 e59 e60 e7
      refine B_X12_land_25 hK hs (n30a := by omega) (n30b := by omega) (kt := fun _ => ?_) (kf := fun t => absurd (by omega) t)
      refine B_X12_land_63 hK hs (k := ?_)
      rw [e0, e60, e7]
      refine k2 _ n s ⟨(((((FJ.u 44 3 _ (by simp)).u 44 4 _ (by simp)).u 44 5 _ (by simp)).u 44 6 _ (by simp)).u 44 7 _ (by simp)).u 44 19 _ (by simp), e0, fun p => ?_, fun p => ?_, rfl, rfl, rfl, rfl, rfl, rfl⟩ hE u ok
      · refine (e45 p).trans ?_
        by_cases c : p < y
        · rw [if_pos c, if_pos (by omega)]
        · rw [if_neg c, if_neg (by omega)]
      · refine (e46 p).trans ?_
        by_cases c : p < y
        · rw [if_pos c, if_pos (by omega)]
        · rw [if_neg c, if_neg (by omega)]
    | succ m ih =>
      intro y J2 hn FJ e0 e45 e46 e58 e59 e60 e7
      have w := (o6 y (by omega)).2
      refine B_X12_land_25 hK hs (n30a := by omega) (n30b := by omega) (kt := fun t => absurd t (by omega)) (kf := fun _ => ?_)
      refine B_X12_land_33 hK hs (b43 := by omega) (o56 := by rw [Int.toNat_natCast, e59]; exact w) (k := ?_)
      rw [Int.toNat_natCast, e58, e59]
      refine ih (y + 1) _ (by omega) ((FJ.u 45 _ _ (by simp)).u 46 _ _ (by simp)) e0 (fun p => ?_) (fun p => ?_) e58 e59 e60 e7
      · rw [u2_oth (by decide), u2_row]
        unfold up
        by_cases c : p = y
        · rw [if_pos c, if_pos (by omega), c]
        · rw [if_neg c, e45 p]
          by_cases c2 : p < y
          · rw [if_pos c2, if_pos (by omega)]
          · rw [if_neg c2, if_neg (by omega)]
      · rw [u2_row, u2_oth (by decide)]
        unfold up
        by_cases c : p = y
        · rw [if_pos c, if_pos (by omega), c]
        · rw [if_neg c, e46 p]
          by_cases c2 : p < y
          · rw [if_pos c2, if_pos (by omega)]
          · rw [if_neg c2, if_neg (by omega)]
  refine lp s.2.1.toNat 0 _ (by omega) ((F.mono (by decide) (by decide)).u 44 0 _ (by simp)) rfl (fun p => ?_) (fun p => ?_) q2 q3 q4 ?_
  · rw [if_neg (by omega)]
    exact F 45 p (by decide) (by simp)
  · rw [if_neg (by omega)]
    exact F 46 p (by decide) (by simp)
  · exact F 44 7 (by decide) (by decide)
