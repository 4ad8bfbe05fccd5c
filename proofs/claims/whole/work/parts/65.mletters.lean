/-! the reference: letters -/
noncomputable def ltF (w : Int64) : Nat → Int
  | 0 => 0
  | i + 1 => if ltF w i < 0 then -1 else if 126 < cod w i ∨ (cod w i ≠ 0 ∧ ltF w i < i) then -1 else ltF w i + (if cod w i = 0 then 0 else 1)
theorem ltF_bd {w : Int64} : ∀ i : Nat, -1 ≤ ltF w i ∧ ltF w i ≤ i
  | 0 => by simp [ltF]
  | i + 1 => by
    have := ltF_bd (w := w) i
    unfold ltF
    (repeat' split) <;> omega
theorem ltF_bad {w : Int64} {i : Nat} (h : ltF w i < 0) : ∀ j : Nat, ltF w (i + j) < 0
  | 0 => h
  | j + 1 => by
    have := ltF_bad h j
    show ltF w ((i + j) + 1) < 0
    unfold ltF
    rw [if_pos this]
    decide
theorem ltF_bad2 {w : Int64} {i n : Nat} (hi : i ≤ n) (h : ltF w i < 0) : ltF w n < 0 := by
  have := ltF_bad h (n - i)
  rwa [show i + (n - i) = n by omega] at this
theorem ltF_ok {w : Int64} {i : Nat} (h : i < 8) (g : 0 ≤ ltF w 8) : cod w i ≤ 126 := by
  by_cases c : 126 < cod w i
  · have : ltF w (i + 1) < 0 := by
      unfold ltF
      split
      · decide
      · rw [if_pos (Or.inl c)]
        decide
    have := ltF_bad2 (n := 8) (by omega) this
    omega
  · omega
/-- letters written into a row of cells -/
def wrN (I : Nat → Nat → Int) (b o n : Nat) (g : Nat → Int) : Nat → Nat → Int := fun h k => if h = b ∧ o ≤ k ∧ k < o + n then g (k - o) else I h k
theorem wrN_0 {I : Nat → Nat → Int} {b o : Nat} {g : Nat → Int} : wrN I b o 0 g = I := by
  funext h k
  unfold wrN
  rw [if_neg (fun z => by omega)]
theorem wrN_step {I : Nat → Nat → Int} {b o n : Nat} {g : Nat → Int} : u2 (wrN I b o n g) b (o + n) (g n) = wrN I b o (n + 1) g := by
  funext h k
  unfold u2 wrN
  by_cases e1 : h = b
  · by_cases e2 : k = o + n
    · rw [if_pos e1, if_pos e2, if_pos ⟨e1, by omega, by omega⟩, show k - o = n by omega]
    · rw [if_pos e1, if_neg e2]
      by_cases e3 : o ≤ k ∧ k < o + n
      · rw [if_pos ⟨e1, e3⟩, if_pos ⟨e1, e3.1, by omega⟩]
      · rw [if_neg (fun z => e3 z.2), if_neg (fun z => e3 ⟨z.2.1, by omega⟩)]
  · rw [if_neg e1, if_neg (fun z => e1 z.1), if_neg (fun z => e1 z.1)]
theorem wrN_ne {I : Nat → Nat → Int} {b o n h k : Nat} {g : Nat → Int} (e : h ≠ b) : wrN I b o n g h k = I h k := by
  unfold wrN
  rw [if_neg (fun z => e z.1)]
noncomputable def letV (I : Nat → Nat → Int) (w : Int64) : Int := if ltF w 8 < 0 then -102 else if I 44 19 + ltF w 8 ≤ 60 then I 44 19 + ltF w 8 else -104
noncomputable def letI2 (I : Nat → Nat → Int) (w : Int64) : Nat → Nat → Int := if 0 ≤ ltF w 8 ∧ I 44 19 + ltF w 8 ≤ 60 then u2 (wrN I 56 (I 44 19).toNat (ltF w 8).toNat (cod w)) 44 19 (I 44 19 + ltF w 8) else I
set_option maxHeartbeats 1000000 in
theorem s_mletters {sh : oS} {I : Nat → Nat → Int} {L : Nat → Nat → Int64} {Q : oQ} (hs : Sh sh) {w : Int64} (h : 0 ≤ I 44 19 ∧ I 44 19 ≤ 60) (k : Q (some (vI (letV I w))) (sh, letI2 I w, L)) : T_X12_letters [vR 44, vL w] (sh, I, L) Q := by
  refine And.intro (Nat.le_of_ble_eq_true rfl) (fun K hK => ?_)
  unfold letV letI2 at k
  have bad : ltF w 8 < 0 → K 46 [none, none, none, none, none, none, none] [] (sh, I, L) (0, 0) := fun z => by
    have z2 : ¬ (0 ≤ ltF w 8 ∧ I 44 19 + ltF w 8 ≤ 60) := fun y => by omega
    rw [if_pos z, if_neg z2] at k
    exact B_X12_letters_46 hK (k := k)
  have fin : 0 ≤ ltF w 8 → K 85 [some (vR 44), some (vL w), none, some (vI (ltF w 8)), none, none, none] [] (sh, I, L) (0, 0) := fun z => by
    have z1 : ¬ (ltF w 8 < 0) := by omega
    have bd := ltF_bd (w := w) 8
    rw [if_neg z1] at k
    refine B_X12_letters_85 hK hs (n93a := by omega) (kt := fun y => ?_) (kf := fun y => ?_)
    rotate_left
    · have y2 : ¬ (0 ≤ ltF w 8 ∧ I 44 19 + ltF w 8 ≤ 60) := fun u => y u.2
      rw [if_neg y, if_neg y2] at k
      exact B_X12_letters_96 hK (k := k)
    have y2 : 0 ≤ ltF w 8 ∧ I 44 19 + ltF w 8 ≤ 60 := ⟨z, y⟩
    rw [if_pos y, if_pos y2] at k
    refine B_X12_letters_99 hK (k := ?_)
    have lp : ∀ (n y : Nat), (y : Int) + n = ltF w 8 → K 102 [some (vR 44), some (vL w), none, some (vI (ltF w 8)), none, some (vI (y : Int)), none] [] (sh, wrN I 56 (I 44 19).toNat y (cod w), L) (0, 0) := by
      intro n
      induction n with
      | zero =>
        intro y hn
        refine B_X12_letters_102 hK (n105a := by omega) (n105b := by omega) (kt := fun _ => ?_) (kf := fun t => absurd (by omega) t)
        refine B_X12_letters_135 hK hs (k := ?_)
        rw [wrN_ne (by decide), show y = (ltF w 8).toNat by omega]
        exact k
      | succ n ih =>
        intro y hn
        refine B_X12_letters_102 hK (n105a := by omega) (n105b := by omega) (kt := fun t => absurd t (by omega)) (kf := fun _ => ?_)
        have c := ltF_ok (w := w) (i := y) (by omega) z
        have cb := cod_byte (w := w) (i := y) (by omega) c
        have cd := cod_bd (w := w) (i := y)
        refine B_X12_letters_108 hK hs (b128 := by rw [wrN_ne (by decide)]; omega) (o128 := by rw [cb]; omega) (k := ?_)
        rw [cb, wrN_ne (by decide), show (I 44 19 + (y : Int)).toNat = (I 44 19).toNat + y by omega, wrN_step]
        exact ih (y + 1) (by omega)
    have g := lp (ltF w 8).toNat 0 (by omega)
    rw [wrN_0] at g
    exact g
  have lp : ∀ (n y : Nat) (m e : Int), y + n = 8 → m = ltF w y → 0 ≤ m → e = (if m < y then 1 else 0) → K 8 [some (vR 44), some (vL w), none, some (vI m), some (vI e), some (vI (y : Int)), none] [] (sh, I, L) (0, 0) := by
    intro n
    induction n with
    | zero =>
      intro y m e hn hm h0 he
      refine B_X12_letters_8 hK (n12a := by omega) (kt := fun _ => ?_) (kf := fun t => absurd (by omega) t)
      have ey : y = 8 := by omega
      rw [ey] at hm
      rw [hm] at h0 ⊢
      exact fin h0
    | succ n ih =>
      intro y m e hn hm h0 he
      refine B_X12_letters_8 hK (n12a := by omega) (kt := fun t => absurd t (by omega)) (kf := fun _ => ?_)
      have cr := cod_ref (w := w) (i := y) (by omega)
      have cd := cod_bd (w := w) (i := y)
      have bd := ltF_bd (w := w) y
      have st : ltF w (y + 1) = if ltF w y < 0 then -1 else if 126 < cod w y ∨ (cod w y ≠ 0 ∧ ltF w y < y) then -1 else ltF w y + (if cod w y = 0 then 0 else 1) := rfl
      rw [← hm, if_neg (show ¬ m < 0 by omega)] at st
      have bad2 : (126 < cod w y ∨ (cod w y ≠ 0 ∧ m < y)) → K 46 [none, none, none, none, none, none, none] [] (sh, I, L) (0, 0) := fun z => by
        rw [if_pos z] at st
        exact bad (ltF_bad2 (i := y + 1) (by omega) (by omega))
      have eb : (e = 1 ∧ m < y) ∨ (e = 0 ∧ ¬ m < y) := or_ite e _ he
      refine B_X12_letters_15 hK (n33a := by rw [cr]; omega) (kt := fun z => bad2 (Or.inl (by rw [cr] at z; exact z))) (kf := fun z => ?_)
      rw [cr] at z ⊢
      have t49 : ¬ (cod w y ≠ 0 ∧ m < y) → K 49 [some (vR 44), some (vL w), none, some (vI m), some (vI e), some (vI (y : Int)), some (vI (cod w y))] [] (sh, I, L) (0, 0) := fun z2 => by
        rw [if_neg (fun u => u.elim z z2)] at st
        have t64 : ∀ s0 : Int, s0 = (if ltF w (y + 1) < ((y + 1 : Nat) : Int) then 1 else 0) → K 64 [some (vR 44), some (vL w), none, some (vI m), none, some (vI (y : Int)), some (vI (cod w y))] [vI s0] (sh, I, L) (0, 0) := fun s0 hs0 => by
          refine B_X12_letters_64 hK (n69 := by omega) (kt := fun z3 => ?_) (kf := fun z3 => ?_)
          · rw [if_neg z3] at st
            refine B_X12_letters_76 hK (k := B_X12_letters_77 hK (k := ?_))
            exact ih (y + 1) (m + 1) s0 (by omega) (by omega) (by omega) (by rw [hs0, st])
          · rw [if_pos (Classical.not_not.1 z3)] at st
            refine B_X12_letters_72 hK (k := B_X12_letters_77 hK (k := ?_))
            exact ih (y + 1) (m + 0) s0 (by omega) (by omega) (by omega) (by rw [hs0, st])
        have t59 : ltF w (y + 1) < ((y + 1 : Nat) : Int) → K 59 [some (vR 44), some (vL w), none, some (vI m), none, some (vI (y : Int)), some (vI (cod w y))] [] (sh, I, L) (0, 0) := fun z4 => B_X12_letters_59 hK (k := t64 1 (by rw [if_pos z4]))
        refine B_X12_letters_49 hK (n51 := by omega) (kt := fun z3 => t59 ?_) (kf := fun z3 => ?_)
        · rw [st]
          split <;> omega
        · refine B_X12_letters_54 hK (n56 := by omega) (kt := fun z4 => ?_) (kf := fun z4 => t59 ?_)
          · refine B_X12_letters_63 hK (k := t64 0 ?_)
            rw [if_neg]
            rw [st, if_neg z4]
            omega
          · rw [st, if_pos (Classical.not_not.1 z4)]
            omega
      refine B_X12_letters_36 hK (n38 := by omega) (kt := fun z2 => t49 (fun u => by omega)) (kf := fun z2 => ?_)
      refine B_X12_letters_41 hK (n43 := by omega) (kt := fun z3 => t49 (fun u => u.1 z3)) (kf := fun z3 => bad2 (Or.inr ⟨z3, by omega⟩))
  exact B_X12_letters_0 hK (k := lp 8 0 0 0 (by omega) rfl (by decide) (by decide))
