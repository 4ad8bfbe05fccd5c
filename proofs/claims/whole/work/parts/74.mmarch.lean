/-! the reference: march, tell -/
abbrev FrB (I J : Nat → Nat → Int) : Prop := Fr [47, 48, 49, 50, 51, 58, 59, 60, 61, 62, 63, 64] [(44, 8), (44, 19), (44, 25), (44, 26), (44, 27), (44, 31), (44, 35), (44, 37)] I J
/-- a march has been read and stands -/
def marJ (I J : Nat → Nat → Int) (s : maS) : Prop := FrB I J ∧ J 44 8 = I 44 8 + 1 ∧ J 44 19 = 0 ∧ J 47 = up (I 47) (I 44 8).toNat s.2.1 ∧ J 50 = up (I 50) (I 44 8).toNat s.2.2.2.1 ∧ (∀ x : Nat, J 48 x = if 10 * (I 44 8).toNat ≤ x ∧ (x : Int) < 10 * I 44 8 + s.2.1 then s.2.2.2.2.2.1 (x - 10 * (I 44 8).toNat) else I 48 x) ∧ (∀ x : Nat, J 49 x = if 10 * (I 44 8).toNat ≤ x ∧ (x : Int) < 10 * I 44 8 + s.2.1 then s.2.2.2.2.2.2.1 (x - 10 * (I 44 8).toNat) else I 49 x) ∧ (∀ x : Nat, J 51 x = if 2 * (I 44 8).toNat ≤ x ∧ (x : Int) < 2 * I 44 8 + s.2.2.2.1 then s.2.2.2.2.2.2.2 (x - 2 * (I 44 8).toNat) else I 51 x)
theorem wr_step {f g h : Nat → Int} {o y : Nat} (e : ∀ x : Nat, g x = if o ≤ x ∧ x < o + y then h (x - o) else f x) : ∀ x : Nat, up g (o + y) (h y) x = if o ≤ x ∧ x < o + (y + 1) then h (x - o) else f x := fun x => by
  unfold up
  by_cases c : x = o + y
  · rw [if_pos c, if_pos ⟨by omega, by omega⟩, show x - o = y by omega]
  · rw [if_neg c, e x]
    by_cases c2 : o ≤ x ∧ x < o + y
    · rw [if_pos c2, if_pos ⟨c2.1, by omega⟩]
    · rw [if_neg c2, if_neg (fun u => c2 ⟨u.1, by omega⟩)]
set_option maxHeartbeats 1000000 in
theorem s_mmarch {sh : oS} {I : Nat → Nat → Int} {L : Nat → Nat → Int64} {Q : oQ} (hs : Sh sh) (h8 : 0 ≤ I 44 8 ∧ I 44 8 ≤ 4) (hpg : 0 ≤ I 44 19 ∧ I 44 19 ≤ 60) (hlt : ∀ x : Nat, (x : Int) < I 44 19 → 0 ≤ I 56 x ∧ I 56 x ≤ 127)
    (k1 : ∀ J (n : Nat) (s : maS), FrR I J → rdEnd maStep (ma0 I) (I 56) (I 44 19).toNat n s → ¬ ((n : Int) = I 44 19 ∧ maE s) → Q (some (vI (-103))) (sh, J, L))
    (k2 : ∀ J (n : Nat) (s : maS), FrR I J → rdEnd maStep (ma0 I) (I 56) (I 44 19).toNat n s → ((n : Int) = I 44 19 ∧ maE s) → I 44 8 = 4 → Q (some (vI (-104))) (sh, J, L))
    (k3 : ∀ J (n : Nat) (s : maS), marJ I J s → rdEnd maStep (ma0 I) (I 56) (I 44 19).toNat n s → ((n : Int) = I 44 19 ∧ maE s) → I 44 8 ≠ 4 → maOK s → Q (some (vI (I 44 8))) (sh, J, L)) : T_X12_march [vR 44] (sh, I, L) Q := by
  refine And.intro (Nat.le_of_ble_eq_true rfl) (fun K hK => ?_)
  refine B_X12_march_0 hK hs (k := ?_)
  refine s_readPage1 hs hpg hlt (fun J n s F hE j1 j2 ok hR => ?_)
  refine B_X12_march_5 hK hs (n9 := by rw [j2]; split <;> decide) (kt := fun z => ?_) (kf := fun z => ?_)
  rotate_left
  · refine B_X12_march_12 hK (k := k1 J n s F hE (fun u => ?_))
    rw [j2, if_pos u] at z
    exact z (by decide)
  have u : (n : Int) = I 44 19 ∧ maE s := by
    by_cases u : (n : Int) = I 44 19 ∧ maE s
    · exact u
    · rw [j2, if_neg u] at z
      exact absurd rfl z
  have e8 : J 44 8 = I 44 8 := F 44 8 (by decide) (by decide)
  refine B_X12_march_15 hK hs (n20a := by omega) (kt := fun z2 => ?_) (kf := fun z2 => ?_)
  rotate_left
  · exact B_X12_march_23 hK (k := k2 J n s F hE u (by omega))
  rw [e8] at z2
  obtain ⟨q1, q2, q3, q4, q5, q6, q7⟩ := hR (by rw [j2, if_pos u])
  obtain ⟨o1, o2, o3, o4⟩ := id ok
  obtain ⟨M, eM⟩ : ∃ M : Nat, I 44 8 = (M : Int) := ⟨(I 44 8).toNat, by omega⟩
  have eM2 : (I 44 8).toNat = M := by omega
  unfold marJ at k3
  rw [eM2] at k3
  refine B_X12_march_26 hK hs (b38 := by omega) (k := ?_)
  rw [e8, eM2, q1, q3]
  have lp2 : ∀ (m y : Nat) (J2 : Nat → Nat → Int), (y : Int) + m = s.2.2.2.1 → FrB I J2 → J2 44 8 = I 44 8 → J2 44 35 = s.2.2.2.1 → J2 63 = s.2.2.2.2.2.2.2 → J2 47 = up (I 47) M s.2.1 → J2 50 = up (I 50) M s.2.2.2.1 → (∀ x : Nat, J2 48 x = if 10 * M ≤ x ∧ (x : Int) < 10 * I 44 8 + s.2.1 then s.2.2.2.2.2.1 (x - 10 * M) else I 48 x) → (∀ x : Nat, J2 49 x = if 10 * M ≤ x ∧ (x : Int) < 10 * I 44 8 + s.2.1 then s.2.2.2.2.2.2.1 (x - 10 * M) else I 49 x) → (∀ x : Nat, J2 51 x = if 2 * M ≤ x ∧ x < 2 * M + y then s.2.2.2.2.2.2.2 (x - 2 * M) else I 51 x) → K 110 [some (vR 44), some (vI (y : Int))] [] (sh, J2, L) (0, 0) := by
    intro m
    induction m with
    | zero =>
      intro y J2 hn FJ a8 a35 a63 a47 a50 a48 a49 a51
      refine B_X12_march_110 hK hs (n115a := by omega) (n115b := by omega) (kt := fun _ => ?_) (kf := fun t => absurd (by omega) t)
      refine B_X12_march_143 hK hs (k := ?_)
      rw [a8, show I 44 8 + 1 - 1 = I 44 8 by omega]
      refine k3 _ n s ⟨(FJ.u 44 8 _ (by simp)).u 44 19 _ (by simp), rfl, rfl, a47, a50, a48, a49, fun x => ?_⟩ hE u z2 ok
      refine (a51 x).trans ?_
      by_cases c : 2 * M ≤ x ∧ x < 2 * M + y
      · rw [if_pos c, if_pos ⟨c.1, by omega⟩]
      · rw [if_neg c, if_neg (fun w => c ⟨w.1, by omega⟩)]
    | succ m ih =>
      intro y J2 hn FJ a8 a35 a63 a47 a50 a48 a49 a51
      refine B_X12_march_110 hK hs (n115a := by omega) (n115b := by omega) (kt := fun t => absurd t (by omega)) (kf := fun _ => ?_)
      refine B_X12_march_118 hK hs (b135 := by omega) (b136 := by omega) (k := ?_)
      rw [Int.toNat_natCast, a63, show (2 * J2 44 8 + (y : Int)).toNat = 2 * M + y by omega]
      refine ih (y + 1) _ (by omega) (FJ.u 51 _ _ (by simp)) a8 a35 a63 a47 a50 a48 a49 ?_
      rw [u2_row]
      exact wr_step a51
  have lp : ∀ (m y : Nat) (J2 : Nat → Nat → Int), (y : Int) + m = s.2.1 → FrB I J2 → J2 44 8 = I 44 8 → J2 44 27 = s.2.1 → J2 44 35 = s.2.2.2.1 → J2 61 = s.2.2.2.2.2.1 → J2 62 = s.2.2.2.2.2.2.1 → J2 63 = s.2.2.2.2.2.2.2 → J2 47 = up (I 47) M s.2.1 → J2 50 = up (I 50) M s.2.2.2.1 → (∀ x : Nat, J2 48 x = if 10 * M ≤ x ∧ x < 10 * M + y then s.2.2.2.2.2.1 (x - 10 * M) else I 48 x) → (∀ x : Nat, J2 49 x = if 10 * M ≤ x ∧ x < 10 * M + y then s.2.2.2.2.2.2.1 (x - 10 * M) else I 49 x) → J2 51 = I 51 → K 54 [some (vR 44), some (vI (y : Int))] [] (sh, J2, L) (0, 0) := by
    intro m
    induction m with
    | zero =>
      intro y J2 hn FJ a8 a27 a35 a61 a62 a63 a47 a50 a48 a49 a51
      refine B_X12_march_54 hK hs (n59a := by omega) (n59b := by omega) (kt := fun _ => ?_) (kf := fun t => absurd (by omega) t)
      refine B_X12_march_108 hK (k := ?_)
      refine lp2 s.2.2.2.1.toNat 0 J2 (by omega) FJ a8 a35 a63 a47 a50 (fun x => ?_) (fun x => ?_) (fun x => ?_)
      · refine (a48 x).trans ?_
        by_cases c : 10 * M ≤ x ∧ x < 10 * M + y
        · rw [if_pos c, if_pos ⟨c.1, by omega⟩]
        · rw [if_neg c, if_neg (fun w => c ⟨w.1, by omega⟩)]
      · refine (a49 x).trans ?_
        by_cases c : 10 * M ≤ x ∧ x < 10 * M + y
        · rw [if_pos c, if_pos ⟨c.1, by omega⟩]
        · rw [if_neg c, if_neg (fun w => c ⟨w.1, by omega⟩)]
      · rw [if_neg (fun w => by omega), a51]
    | succ m ih =>
      intro y J2 hn FJ a8 a27 a35 a61 a62 a63 a47 a50 a48 a49 a51
      refine B_X12_march_54 hK hs (n59a := by omega) (n59b := by omega) (kt := fun t => absurd t (by omega)) (kf := fun _ => ?_)
      refine B_X12_march_62 hK hs (b80 := by omega) (b81 := by omega) (k := ?_)
      rw [Int.toNat_natCast, a61, a62, show (10 * J2 44 8 + (y : Int)).toNat = 10 * M + y by omega]
      refine ih (y + 1) _ (by omega) ((FJ.u 48 _ _ (by simp)).u 49 _ _ (by simp)) a8 a27 a35 a61 a62 a63 a47 a50 ?_ ?_ a51
      · rw [u2_oth (by decide), u2_row]
        exact wr_step a48
      · rw [u2_row, u2_oth (by decide)]
        exact wr_step a49
  refine lp s.2.1.toNat 0 _ (by omega) (((F.mono (by decide) (by decide)).u 47 _ _ (by simp)).u 50 _ _ (by simp)) e8 q1 q3 q5 q6 q7 ?_ ?_ (fun x => ?_) (fun x => ?_) ?_
  · rw [u2_oth (by decide), u2_row, fn_eq F 47 (by decide) (by decide)]
  · rw [u2_row, u2_oth (by decide), fn_eq F 50 (by decide) (by decide)]
  · rw [if_neg (fun w => by omega)]
    exact F 48 x (by decide) (by simp)
  · rw [if_neg (fun w => by omega)]
    exact F 49 x (by decide) (by simp)
  · exact fn_eq F 51 (by decide) (by decide)
