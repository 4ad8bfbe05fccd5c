/-! the class answers: what is told -/
theorem c_landTold {sh : oS} {I : Nat → Nat → Int} {L : Nat → Nat → Int64} {Q : oQ} (hs : Sh sh) {b : Nat} {a what : Int} (R : Rel sh I b a) (hw : inR what) (k : Q (some (vI (ltV I what))) (sh, I, L)) : T_X11_landTold [vR 0, vI what] (sh, I, L) Q := by
  refine And.intro (Nat.le_of_ble_eq_true rfl) (fun K hK => ?_)
  obtain ⟨hn, ht, R⟩ := R
  obtain ⟨d0, d3, d4, d5, d6, -⟩ := R.2.2.1
  have o0 := R.1.1.1
  unfold ltV lndV at k
  refine B_X11_landTold_0 hK hs (n7 := by omega) (kt := fun z => ?_) (kf := fun z => ?_)
  rotate_left
  · rw [if_pos (by omega)] at k
    exact B_X11_landTold_10 hK (k := k)
  rw [if_neg (by omega)] at k
  refine B_X11_landTold_13 hK (n14 := hw) (k := ?_)
  by_cases c : 0 ≤ what ∧ what ≤ 4
  · rw [if_pos c] at k
    have : what = 0 ∨ what = 1 ∨ what = 2 ∨ what = 3 ∨ what = 4 := by omega
    rcases this with e | e | e | e | e
    · rw [swT_in 0 48 (by omega) (by rfl)]
      rw [if_pos e, ← d0] at k
      exact B_X11_landTold_48 hK hs (k := k)
    · rw [swT_in 1 56 (by omega) (by rfl)]
      rw [if_neg (by omega), if_pos e, ← d3] at k
      exact B_X11_landTold_56 hK hs (k := k)
    · rw [swT_in 2 64 (by omega) (by rfl)]
      rw [if_neg (by omega), if_neg (by omega), if_pos e, ← d4] at k
      exact B_X11_landTold_64 hK hs (k := k)
    · rw [swT_in 3 72 (by omega) (by rfl)]
      rw [if_neg (by omega), if_neg (by omega), if_neg (by omega), if_pos e, ← d5] at k
      exact B_X11_landTold_72 hK hs (k := k)
    · rw [swT_in 4 80 (by omega) (by rfl)]
      rw [if_neg (by omega), if_neg (by omega), if_neg (by omega), if_neg (by omega), ← d6] at k
      exact B_X11_landTold_80 hK hs (k := k)
  · rw [swT_out (by simp; omega)]
    rw [if_neg c] at k
    exact hK.2 [false, false] 88 [some (vR 0), none] [] (sh, I, L) (0, 0) (B_X11_landTold_88 hK (k := k))
theorem c_count {sh : oS} {I : Nat → Nat → Int} {L : Nat → Nat → Int64} {Q : oQ} (hs : Sh sh) {b : Nat} {what : Int} (R : Rel sh I b 0) (hw : inR what) (k : Q (some (vI (hmV I what))) (sh, I, L)) : T_X11_count [vR 0, vI what] (sh, I, L) Q := by
  refine And.intro (Nat.le_of_ble_eq_true rfl) (fun K hK => ?_)
  obtain ⟨hn, ht, R⟩ := R
  have d0 := R.2.2.1.1
  have d1 := R.2.2.2.1.1
  have d2 := R.2.2.2.2.1.1
  have d3 := R.2.1.1
  have d4 := R.2.2.2.2.2.2.1.1
  have d5 : I 0 11 = I 44 21 := by have := R.2.2.2.2.2.2.1.2; omega
  unfold hmV at k
  refine B_X11_count_0 hK (n1 := hw) (k := ?_)
  by_cases c : 0 ≤ what ∧ what ≤ 5
  · have : what = 0 ∨ what = 1 ∨ what = 2 ∨ what = 3 ∨ what = 4 ∨ what = 5 := by omega
    rcases this with e | e | e | e | e | e
    · rw [swT_in 0 40 (by omega) (by rfl)]
      rw [if_pos e, ← d0] at k
      exact B_X11_count_40 hK hs (k := k)
    · rw [swT_in 1 48 (by omega) (by rfl)]
      rw [if_neg (by omega), if_pos e, ← d1] at k
      exact B_X11_count_48 hK hs (k := k)
    · rw [swT_in 2 53 (by omega) (by rfl)]
      rw [if_neg (by omega), if_neg (by omega), if_pos e, ← d2] at k
      exact B_X11_count_53 hK hs (k := k)
    · rw [swT_in 3 58 (by omega) (by rfl)]
      rw [if_neg (by omega), if_neg (by omega), if_neg (by omega), if_pos e, ← d3] at k
      exact B_X11_count_58 hK hs (k := k)
    · rw [swT_in 4 66 (by omega) (by rfl)]
      rw [if_neg (by omega), if_neg (by omega), if_neg (by omega), if_neg (by omega), if_pos e, ← d4] at k
      exact B_X11_count_66 hK hs (k := k)
    · rw [swT_in 5 71 (by omega) (by rfl)]
      rw [if_neg (by omega), if_neg (by omega), if_neg (by omega), if_neg (by omega), if_neg (by omega), if_pos e, ← d5] at k
      exact B_X11_count_71 hK hs (k := k)
  · rw [swT_out (by simp; omega)]
    rw [if_neg (by omega), if_neg (by omega), if_neg (by omega), if_neg (by omega), if_neg (by omega), if_neg (by omega)] at k
    exact hK.2 [false, false] 76 [some (vR 0), none] [] (sh, I, L) (0, 0) (B_X11_count_76 hK (k := k))
theorem c_place {sh : oS} {I : Nat → Nat → Int} {L : Nat → Nat → Int64} {Q : oQ} (hs : Sh sh) {b : Nat} {a place what : Int} (R : Rel sh I b a) (hp : inR place) (hw : inR what) (k : Q (some (vI (plcV I place what))) (sh, I, L)) : T_X11_place [vR 0, vI place, vI what] (sh, I, L) Q := by
  refine And.intro (Nat.le_of_ble_eq_true rfl) (fun K hK => ?_)
  obtain ⟨hn, ht, R⟩ := R
  obtain ⟨d0, -, -, -, -, dd⟩ := R.2.2.1
  have o0 := R.1.1.1
  have o7 := R.1.1.2.2.2.2.2.2.1
  unfold plcV at k
  refine B_X11_place_0 hK hs (k := ?_)
  refine s_has (landT hs) hp (by omega) (fun r hr => ?_)
  refine B_X11_place_8 hK (n8 := by omega) (kt := fun z => ?_) (kf := fun z => ?_)
  rotate_left
  · have c : ¬ (0 ≤ place ∧ place < I 44 0) := by omega
    rw [if_pos c] at k
    exact B_X11_place_11 hK (k := k)
  have c : 0 ≤ place ∧ place < I 44 0 := by omega
  have c2 : ¬ ¬ (0 ≤ place ∧ place < I 44 0) := fun t => t c
  rw [if_neg c2] at k
  obtain ⟨p, rfl⟩ := Int.eq_ofNat_of_zero_le c.1
  obtain ⟨x1, x2⟩ := dd p c.2
  have out : ¬ (what = 0 ∨ what = 1) → K 23 [none, none, none] [] (sh, I, L) (0, 0) := fun y => by
    rw [if_neg (by omega), if_neg (by omega)] at k
    exact B_X11_place_23 hK (k := k)
  refine B_X11_place_14 hK (n15 := hw) (kt := fun y => out (by omega)) (kf := fun y => ?_)
  refine B_X11_place_18 hK (n20a := hw) (kt := fun y2 => ?_) (kf := fun y2 => out (by omega))
  rw [Int.toNat_natCast] at k
  refine B_X11_place_26 hK (n27 := hw) (kt := fun y3 => ?_) (kf := fun y3 => ?_)
  · refine B_X11_place_42 hK hs (b50 := by omega) (k := B_X11_place_51 hK (k := ?_))
    rw [Int.toNat_natCast, x2]
    rw [if_neg y3, if_pos (by omega)] at k
    rcases o7 p (by omega) with e | e <;> rw [e] at k ⊢
    · exact k
    · exact k
  · refine B_X11_place_30 hK hs (b38 := by omega) (k := B_X11_place_51 hK (k := ?_))
    rw [Int.toNat_natCast, x1]
    rw [if_pos (Classical.not_not.1 y3)] at k
    exact k
theorem c_marchTold {sh : oS} {I : Nat → Nat → Int} {L : Nat → Nat → Int64} {Q : oQ} (hs : Sh sh) {b : Nat} {a march what : Int} (R : Rel sh I b a) (hm : inR march) (hw : inR what) (k : Q (some (vI (mtV I march what))) (sh, I, L)) : T_X11_marchTold [vR 0, vI march, vI what] (sh, I, L) Q := by
  refine And.intro (Nat.le_of_ble_eq_true rfl) (fun K hK => ?_)
  obtain ⟨hn, ht, R⟩ := R
  unfold mtV at k
  refine B_X11_marchTold_0 hK hs (k := ?_)
  refine s_marchOf hs R hm (fun m h em hml s9 mr => ?_) (fun z => ?_)
  rotate_left
  · rw [if_pos z] at k
    exact B_X11_marchTold_5n hK (k := B_X11_marchTold_10 hK (k := k))
  subst em
  have gm2 : ¬ ¬ (0 ≤ (m : Int) ∧ (m : Int) < I 44 8) := fun t => t (by omega)
  rw [if_neg gm2, Int.toNat_natCast] at k
  have om := R.1.1.2.2.2.2.2.2.2.2.1 m hml
  obtain ⟨-, -, e0, e1, ed, et⟩ := id mr
  refine B_X11_marchTold_5 hK (k := ?_)
  refine B_X11_marchTold_13 hK (n14 := hw) (kt := fun z => ?_) (kf := fun z => ?_)
  rotate_left
  · rw [if_pos (Classical.not_not.1 z), ← e0] at k
    exact B_X11_marchTold_17 hK (Ah3 := mr.1.1) (k := k)
  rw [if_neg z] at k
  refine B_X11_marchTold_22 hK (n24a := hw) (kt := fun z2 => ?_) (kf := fun z2 => ?_)
  rotate_left
  · rw [if_pos (Classical.not_not.1 z2), ← e1] at k
    exact B_X11_marchTold_27 hK (Ah3 := mr.1.1) (k := k)
  rw [if_neg z2] at k
  have out : ¬ (10 ≤ what ∧ what ≤ 19) → ¬ (20 ≤ what ∧ what ≤ 21) → K 106 [none, none, none, none] [] (sh, I, L) (0, 0) := fun y1 y2 => by
    rw [if_neg y1, if_neg y2] at k
    exact B_X11_marchTold_106 hK (k := k)
  have late : ¬ (10 ≤ what ∧ what ≤ 19) → K 69 [none, none, some (vI what), some (vR h)] [] (sh, I, L) (0, 0) := fun y1 => by
    refine B_X11_marchTold_69 hK (n72a := hw) (kt := fun y => out y1 (by omega)) (kf := fun y => ?_)
    refine B_X11_marchTold_75 hK (n78a := hw) (kt := fun y2 => out y1 (by omega)) (kf := fun y2 => ?_)
    rw [if_neg y1, if_pos (show 20 ≤ what ∧ what ≤ 21 by omega)] at k
    refine B_X11_marchTold_81 hK (Ah3 := mr.1.1) (n89a := by omega) (n89b := by omega) (kt := fun y3 => ?_) (kf := fun y3 => ?_)
    · rw [if_neg (by omega)] at k
      exact B_X11_marchTold_104 hK (k := B_X11_marchTold_105 hK (k := k))
    · rw [if_pos (by omega)] at k
      refine B_X11_marchTold_92 hK (Ah3 := mr.1.1) (b100 := by omega) (k := B_X11_marchTold_105 hK (k := ?_))
      rw [et _ (by omega), show 2 * m + (what - 20).toNat = (2 * (m : Int) + what - 20).toNat by omega]
      exact k
  refine B_X11_marchTold_32 hK (n35a := hw) (kt := fun y => late (by omega)) (kf := fun y => ?_)
  refine B_X11_marchTold_38 hK (n41a := hw) (kt := fun y2 => late (by omega)) (kf := fun y2 => ?_)
  rw [if_pos (show 10 ≤ what ∧ what ≤ 19 by omega)] at k
  refine B_X11_marchTold_44 hK (Ah3 := mr.1.1) (n52a := by omega) (n52b := by omega) (kt := fun y3 => ?_) (kf := fun y3 => ?_)
  · rw [if_neg (by omega)] at k
    exact B_X11_marchTold_67 hK (k := B_X11_marchTold_68 hK (k := k))
  · rw [if_pos (by omega)] at k
    refine B_X11_marchTold_55 hK (Ah3 := mr.1.1) (b63 := by omega) (k := B_X11_marchTold_68 hK (k := ?_))
    rw [(ed _ (by omega)).1, show 10 * m + (what - 10).toNat = (10 * (m : Int) + what - 10).toNat by omega]
    exact k
set_option maxRecDepth 4000 in
theorem c_as {sh : oS} {I : Nat → Nat → Int} {L : Nat → Nat → Int64} {Q : oQ} (hs : Sh sh) {b : Nat} {a plan kind : Int} (R : Rel sh I b a) (hp : inR plan) (hk : inR kind) (k : Q (some (vI (asV I plan kind))) (sh, I, L)) : T_X11_as [vR 0, vI plan, vI kind] (sh, I, L) Q := by
  refine And.intro (Nat.le_of_ble_eq_true rfl) (fun K hK => ?_)
  obtain ⟨hn, ht, R⟩ := R
  unfold asV at k
  refine B_X11_as_0 hK hs (k := ?_)
  refine s_planOf hs R hp (fun p g ep hpl s10 => ?_) (fun z => ?_)
  rotate_left
  · rw [if_pos z] at k
    exact B_X11_as_5n hK (k := B_X11_as_10 hK (k := k))
  subst ep
  have gp2 : ¬ ¬ (0 ≤ (p : Int) ∧ (p : Int) < I 44 14) := fun t => t (by omega)
  rw [if_neg gp2, Int.toNat_natCast] at k
  obtain ⟨g2, s102, pr, -⟩ := R.2.2.2.2.1.2 p hpl
  have gg2 : g2 = g := by rw [s10] at s102; exact (Option.some.inj s102).symm
  subst gg2
  have pk := pr.k2 (I := I) rfl
  have kd : (sK sh g2 = 0 ∧ I 52 p = 0) ∨ (sK sh g2 = 3 ∧ I 52 p = 1) ∨ (sK sh g2 = 5 ∧ I 52 p = 2) ∨ (sK sh g2 = 1 ∧ I 52 p = 3) ∨ (sK sh g2 = 10 ∧ I 52 p = 4) := by
    rcases pk.2.2.2 with ⟨c1, c2, -⟩ | ⟨c1, c2, -⟩ | ⟨c1, c2, -⟩ | ⟨c1, c2, -⟩ | ⟨c1, c2, -⟩ <;> omega
  have kb := pk.kb
  refine B_X11_as_5 hK (k := ?_)
  refine B_X11_as_13 hK (n14 := hk) (k := ?_)
  by_cases c : 0 ≤ kind ∧ kind ≤ 4
  · have c2 : ¬ ¬ (0 ≤ kind ∧ kind ≤ 4) := fun t => t c
    rw [if_neg c2] at k
    have : kind = 0 ∨ kind = 1 ∨ kind = 2 ∨ kind = 3 ∨ kind = 4 := by omega
    rcases this with e | e | e | e | e
    · rw [swT_in 0 48 (by omega) (by rfl)]
      rw [if_pos (Or.inl e)] at k
      exact hK.2 [false, true, false, false] 48 [none, some (vI (p : Int)), none, some (vR g2)] [] (sh, I, L) (0, 0) (B_X11_as_48 hK (k := k))
    · rw [swT_in 1 50 (by omega) (by rfl)]
      refine B_X11_as_50 hK (ky := fun hy => ?_) (kn := fun hn2 => ?_) (kb := kb)
      · have hy : sK sh g2 = 3 ∨ sK sh g2 = 5 := by simpa using hy
        rw [if_pos (by omega)] at k
        refine hK.1 54 [none, some (vI (p : Int)), none, none] [vI 1] (sh, I, L) (0, 0) ?_
        exact And.intro (by decide) (And.intro (fun (z : (1 : Int) = 0) => absurd z (by decide)) (fun _ => B_X11_as_57 hK (k := B_X11_as_62 hK (k := k))))
      · have hy : sK sh g2 = 0 ∨ sK sh g2 = 1 ∨ sK sh g2 = 10 := by simpa using hn2
        rw [if_neg (by omega)] at k
        refine hK.1 54 [none, some (vI (p : Int)), none, none] [vI 0] (sh, I, L) (0, 0) ?_
        exact And.intro (by decide) (And.intro (fun _ => hK.2 [false, false, false, false] 61 [none, some (vI (p : Int)), none, none] [] (sh, I, L) (0, 0) (B_X11_as_61 hK (k := B_X11_as_62 hK (k := k)))) (fun z => absurd rfl z))
    · rw [swT_in 2 63 (by omega) (by rfl)]
      refine B_X11_as_63 hK (ky := fun hy => ?_) (kn := fun hn2 => ?_) (kb := kb)
      · have hy : sK sh g2 = 5 := by simpa using hy
        rw [if_pos (by omega)] at k
        refine hK.1 67 [none, some (vI (p : Int)), none, none] [vI 1] (sh, I, L) (0, 0) ?_
        exact And.intro (by decide) (And.intro (fun (z : (1 : Int) = 0) => absurd z (by decide)) (fun _ => B_X11_as_70 hK (k := B_X11_as_75 hK (k := k))))
      · have hy : sK sh g2 = 0 ∨ sK sh g2 = 1 ∨ sK sh g2 = 3 ∨ sK sh g2 = 10 := by simpa using hn2
        rw [if_neg (by omega)] at k
        refine hK.1 67 [none, some (vI (p : Int)), none, none] [vI 0] (sh, I, L) (0, 0) ?_
        exact And.intro (by decide) (And.intro (fun _ => hK.2 [false, false, false, false] 74 [none, some (vI (p : Int)), none, none] [] (sh, I, L) (0, 0) (B_X11_as_74 hK (k := B_X11_as_75 hK (k := k)))) (fun z => absurd rfl z))
    · rw [swT_in 3 76 (by omega) (by rfl)]
      refine B_X11_as_76 hK (ky := fun hy => ?_) (kn := fun hn2 => ?_) (kb := kb)
      · have hy : sK sh g2 = 1 := by simpa using hy
        rw [if_pos (by omega)] at k
        refine hK.1 80 [none, some (vI (p : Int)), none, none] [vI 1] (sh, I, L) (0, 0) ?_
        exact And.intro (by decide) (And.intro (fun (z : (1 : Int) = 0) => absurd z (by decide)) (fun _ => B_X11_as_83 hK (k := B_X11_as_88 hK (k := k))))
      · have hy : sK sh g2 = 0 ∨ sK sh g2 = 3 ∨ sK sh g2 = 5 ∨ sK sh g2 = 10 := by simpa using hn2
        rw [if_neg (by omega)] at k
        refine hK.1 80 [none, some (vI (p : Int)), none, none] [vI 0] (sh, I, L) (0, 0) ?_
        exact And.intro (by decide) (And.intro (fun _ => hK.2 [false, false, false, false] 87 [none, some (vI (p : Int)), none, none] [] (sh, I, L) (0, 0) (B_X11_as_87 hK (k := B_X11_as_88 hK (k := k)))) (fun z => absurd rfl z))
    · rw [swT_in 4 89 (by omega) (by rfl)]
      refine B_X11_as_89 hK (ky := fun hy => ?_) (kn := fun hn2 => ?_) (kb := kb)
      · have hy : sK sh g2 = 10 := by simpa using hy
        rw [if_pos (by omega)] at k
        refine hK.1 93 [none, some (vI (p : Int)), none, none] [vI 1] (sh, I, L) (0, 0) ?_
        exact And.intro (by decide) (And.intro (fun (z : (1 : Int) = 0) => absurd z (by decide)) (fun _ => B_X11_as_96 hK (k := B_X11_as_101 hK (k := k))))
      · have hy : sK sh g2 = 0 ∨ sK sh g2 = 1 ∨ sK sh g2 = 3 ∨ sK sh g2 = 5 := by simpa using hn2
        rw [if_neg (by omega)] at k
        refine hK.1 93 [none, some (vI (p : Int)), none, none] [vI 0] (sh, I, L) (0, 0) ?_
        exact And.intro (by decide) (And.intro (fun _ => hK.2 [false, false, false, false] 100 [none, some (vI (p : Int)), none, none] [] (sh, I, L) (0, 0) (B_X11_as_100 hK (k := B_X11_as_101 hK (k := k)))) (fun z => absurd rfl z))
  · rw [swT_out (by simp; omega)]
    rw [if_pos c] at k
    exact hK.2 [false, false, false, false] 102 [none, some (vI (p : Int)), none, some (vR g2)] [] (sh, I, L) (0, 0) (B_X11_as_102 hK (k := k))
