/-! the class: flour, image, restore -/
theorem RelX.fl {sh : oS} {I J : Nat → Nat → Int} {b hn ht : Nat} {a : Int} (R : RelX sh I b hn ht a) (q : ∀ x y, x ≠ 4 → x ≠ 45 → ¬ (41 ≤ x ∧ x ≤ 43) → J x y = I x y) (f1 : ∀ p, p < 8 → 0 ≤ J 45 p ∧ J 45 p ≤ 999) (f2 : ∀ p : Nat, (p : Int) < I 44 0 → J 4 p = J 45 p) (k1 : ∀ x, x < 128 → J 41 x = -1) (k2 : ∀ x, x < 32 → J 43 x = -1) : RelX sh J b hn ht a := by
  obtain ⟨⟨s1, s2, s3, s4, s5, s6⟩, r2, r3, -, -, r6, r7, r8, -⟩ := id R
  have okJ : mOK J := by
    have e : rfV (fun h k => if h = 45 then J 45 k else I h k) J := rfV.of (fun x k c => by
      by_cases z : x = 45
      · rw [z, if_pos rfl]
      · rw [if_neg z]
        exact q x k (by omega) z (by omega))
    rw [e.ok]
    obtain ⟨h1, h2, h3, h4, h5, h6, h7, h8, h9, h10, h11⟩ := s1
    refine ⟨h1, h2, h3, h4, h5, fun p hp => ?_, h7, h8, h9, h10, h11⟩
    show 0 ≤ J 45 p ∧ J 45 p ≤ 1009
    have := f1 p hp
    omega
  have qq : ∀ x y, x = 0 ∨ x = 1 ∨ x = 2 ∨ x = 3 ∨ x = 5 ∨ x = 23 ∨ x = 44 ∨ x = 46 ∨ x = 56 ∨ x = 57 → J x y = I x y := fun x y h => q x y (by omega) (by omega) (by omega)
  refine R.gen ⟨okJ, ?_, ?_, ?_, ?_, ?_⟩ ?_ ?_ (fun x k h1 h2 => q x k (by omega) (by omega) (by omega)) (qq _ _ (by omega)) (qq _ _ (by omega)) (qq _ _ (by omega)) (qq _ _ (by omega)) (fun x k h => q x k (by omega) (by omega) (by omega)) (rKc.fgt k1 k2) ?_ ?_ ?_
  · rw [qq 44 3 (by omega), qq 44 5 (by omega)]
    exact ⟨s2.1, s2.2.1, fun p hp => (f1 p hp).2⟩
  · rw [qq 44 21 (by omega)]; exact s3
  · rw [qq 44 19 (by omega)]; exact s4
  · intro x hx
    rw [qq 44 19 (by omega)] at hx
    rw [qq 56 x (by omega)]
    exact s5 x hx
  · rw [qq 44 7 (by omega)]; exact s6
  · unfold rPg
    rw [qq 1 1 (by omega), qq 44 19 (by omega)]
    refine ⟨r2.1, fun x hx => ?_⟩
    rw [qq 2 x (by omega), qq 56 x (by omega)]
    exact r2.2 x hx
  · unfold rLd
    rw [qq 3 0 (by omega), qq 3 3 (by omega), qq 3 4 (by omega), qq 3 5 (by omega), qq 3 6 (by omega), qq 44 0 (by omega), qq 44 3 (by omega), qq 44 4 (by omega), qq 44 5 (by omega), qq 44 6 (by omega)]
    refine ⟨r3.1, r3.2.1, r3.2.2.1, r3.2.2.2.1, r3.2.2.2.2.1, fun p hp => ?_⟩
    rw [qq 5 p (by omega), qq 46 p (by omega)]
    exact ⟨f2 p hp, (r3.2.2.2.2.2 p hp).2⟩
  · rw [qq 0 10 (by omega), qq 44 7 (by omega)]; exact r7.1
  · rw [qq 0 11 (by omega), qq 44 21 (by omega)]; exact r7.2
  · unfold rIm
    rw [qq 44 0 (by omega), qq 44 7 (by omega), qq 44 22 (by omega), qq 0 13 (by omega), qq 44 23 (by omega)]
    refine ⟨r8.1, ?_⟩
    rcases r8.2 with z | ⟨z1, z2, z3, z4⟩
    · exact Or.inl z
    · refine Or.inr ⟨z1, z2, z3, fun w p hp => ?_⟩
      rw [qq 23 p (by omega), qq 57 p (by omega)]
      exact z4 w p hp
theorem c_flour {sh : oS} {I : Nat → Nat → Int} {L : Nat → Nat → Int64} {Q : oQ} (hs : Sh sh) {b : Nat} {a place v : Int} (R : Rel sh I b a) (hp : inR place) (hv : inR v) (k : ∀ J, rfE I J → Rel sh (floI J place v) b a → Q (some (vI (floV I place v))) (sh, J, L)) : T_X11_flour [vR 0, vI place, vI v] (sh, I, L) Q := by
  refine And.intro (Nat.le_of_ble_eq_true rfl) (fun K hK => ?_)
  obtain ⟨hn, ht, R⟩ := R
  have d0 := R.2.2.1.1
  have dd := R.2.2.1.2.2.2.2.2
  have o0 := R.1.1.1
  have s2 := R.1.2.1.2.2
  have o6 := R.1.1.2.2.2.2.2.1
  unfold floV at k
  have same : ¬ ((0 ≤ place ∧ place < I 44 0) ∧ 0 ≤ v ∧ v ≤ 999) → Rel sh (floI I place v) b a := fun z => by
    unfold floI
    rw [if_neg z]
    exact ⟨hn, ht, R⟩
  refine B_X11_flour_0 hK hs (k := ?_)
  refine s_has (landT hs) hp (by omega) (fun r hr => ?_)
  refine B_X11_flour_8 hK (n8 := by omega) (kt := fun z => ?_) (kf := fun z => ?_)
  rotate_left
  · have c : ¬ (0 ≤ place ∧ place < I 44 0) := by omega
    have kk := k I rfl (same (fun t => c t.1))
    rw [if_pos c] at kk
    exact B_X11_flour_11 hK (k := kk)
  have c : 0 ≤ place ∧ place < I 44 0 := by omega
  have c2 : ¬ ¬ (0 ≤ place ∧ place < I 44 0) := fun t => t c
  rw [if_neg c2] at k
  have out : ¬ (0 ≤ v ∧ v ≤ 999) → K 25 [none, none, none, none] [] (sh, I, L) (0, 0) := fun y => by
    have kk := k I rfl (same (fun t => y t.2))
    rw [if_pos y] at kk
    exact B_X11_flour_25 hK (k := kk)
  refine B_X11_flour_14 hK (n15 := hv) (kt := fun y => out (by omega)) (kf := fun y => ?_)
  refine B_X11_flour_18 hK (n22a := hv) (kt := fun y2 => ?_) (kf := fun y2 => out (by omega))
  have c3 : ¬ ¬ (0 ≤ v ∧ v ≤ 999) := by omega
  rw [if_neg c3] at k
  obtain ⟨p, rfl⟩ := Int.eq_ofNat_of_zero_le c.1
  rw [Int.toNat_natCast] at k
  refine B_X11_flour_28 hK hs (b36 := by omega) (k := ?_)
  rw [Int.toNat_natCast]
  refine s_forget hs (fun J F k1 k2 => ?_)
  refine B_X11_flour_52 hK (k := ?_)
  rw [(dd p c.2).1]
  have e : rfE I J := rfE.of (fun x y t => by rw [F x y (by simp <;> omega) (by simp), uN (by omega)])
  refine k J e ⟨hn, ht, ?_⟩
  have hi : floI J (p : Int) v = u2 J 45 p v := by
    unfold floI
    rw [e.at (a := 44) (by omega), if_pos ⟨c, by omega⟩, Int.toNat_natCast]
  rw [hi]
  refine R.fl (fun x y h1 h2 h3 => ?_) (fun x hx => ?_) (fun x hx => ?_) (fun x hx => ?_) (fun x hx => ?_)
  · rw [uN h2, F x y (by simp <;> omega) (by simp), uN h1]
  · by_cases z : x = p
    · rw [z, uA]
      omega
    · rw [uK z, e.at (by omega)]
      have := s2 x hx
      have := o6 x hx
      omega
  · by_cases z : x = p
    · rw [z, uA, uN (by decide), F 4 p (by simp) (by simp), uA]
    · have a1 : (u2 J 45 p v) 4 x = J 4 x := uN (by decide)
      have a2 : (u2 J 45 p v) 45 x = J 45 x := uK z
      rw [a1, a2, F 4 x (by simp) (by simp), uK z, e.at (by omega)]
      exact (dd x hx).1
  · rw [uN (by decide)]; exact (k1 x hx).1
  · rw [uN (by decide)]; exact k2 x hx
theorem s_callFlour {sh : oS} {I : Nat → Nat → Int} {L : Nat → Nat → Int64} {Q : oQ} (hs : Sh sh) {R : Nat → Nat → Int} {P : Nat} (hP : I 3 0 = (P : Int)) (hP8 : P ≤ 8) (hf : ∀ p : Nat, p < P → I 4 p = R 45 p) (k : Q (some (vI (flS R P))) (sh, I, L)) : T_X4_allFlour [vR 3] (sh, I, L) Q := by
  refine And.intro (Nat.le_of_ble_eq_true rfl) (fun K hK => ?_)
  refine B_X4_allFlour_0 hK (k := ?_)
  have lp : ∀ (n y : Nat), y + n = P → K 4 [some (vR 3), some (vI (flS R y)), some (vI (y : Int))] [] (sh, I, L) (0, 0) := by
    intro n
    induction n with
    | zero =>
      intro y hy
      refine B_X4_allFlour_4 hK (Ah0 := landT hs) (n9a := by omega) (n9b := by omega) (kt := fun _ => ?_) (kf := fun t => absurd (by omega) t)
      rw [show P = y by omega] at k
      exact B_X4_allFlour_27 hK (k := k)
    | succ n ih =>
      intro y hy
      refine B_X4_allFlour_4 hK (Ah0 := landT hs) (n9a := by omega) (n9b := by omega) (kt := fun t => absurd t (by omega)) (kf := fun _ => ?_)
      refine B_X4_allFlour_12 hK (Ah0 := landT hs) (b18 := by omega) (k := ?_)
      rw [Int.toNat_natCast, hf y (by omega)]
      exact ih (y + 1) (by omega)
  exact lp P 0 (by omega)
theorem c_image {sh : oS} {I : Nat → Nat → Int} {L : Nat → Nat → Int64} {Q : oQ} (hs : Sh sh) {b : Nat} {a : Int} (R : Rel sh I b a) (k : ∀ J, rfE I J → Rel sh (imgI J) b a → Q (some (vI (imgV I))) (sh, J, L)) : T_X11_image [vR 0] (sh, I, L) Q := by
  refine And.intro (Nat.le_of_ble_eq_true rfl) (fun K hK => ?_)
  obtain ⟨hn, ht, R⟩ := R
  obtain ⟨⟨s1, s2, s3, s4, s5, s6⟩, r2, r3, -, -, r6, r7, r8, -⟩ := id R
  have o0 := s1.1
  have o6 := s1.2.2.2.2.2.1
  obtain ⟨d0, -, -, -, -, dd⟩ := id r3
  unfold imgV at k
  refine B_X11_image_0 hK hs (n7 := by omega) (kt := fun z => ?_) (kf := fun z => ?_)
  rotate_left
  · have h0 : I 44 0 = 0 := by omega
    have kk := k I rfl (by
      unfold imgI
      rw [if_pos h0]
      exact ⟨hn, ht, R⟩)
    rw [if_pos h0] at kk
    exact B_X11_image_10 hK (k := kk)
  have h0 : ¬ I 44 0 = 0 := by omega
  rw [if_neg h0] at k
  obtain ⟨P, hP⟩ := Int.eq_ofNat_of_zero_le (show 0 ≤ I 44 0 by omega)
  refine B_X11_image_13 hK hs (c28 := by decide) (k := ?_)
  have e10 : (oCpy I 4 0 23 0 8) 0 10 = I 0 10 := by simp [oCpy]
  rw [e10]
  have q : ∀ x y, x ≠ 23 → ¬ (x = 0 ∧ y = 13) → (u2 (oCpy I 4 0 23 0 8) 0 13 (I 0 10)) x y = I x y := fun x y h1 h2 => by
    rw [uF (by omega)]
    unfold oCpy
    rw [if_neg h1]
  have v13 : (u2 (oCpy I 4 0 23 0 8) 0 13 (I 0 10)) 0 13 = I 0 10 := uA
  have v23 : ∀ x, x < 8 → (u2 (oCpy I 4 0 23 0 8) 0 13 (I 0 10)) 23 x = I 4 x := fun x hx => by
    rw [uN (by decide)]
    unfold oCpy
    rw [if_pos rfl, if_pos (by omega)]
    simp
  generalize u2 (oCpy I 4 0 23 0 8) 0 13 (I 0 10) = J at *
  have e : rfE I J := rfE.of (fun x y t => q x y (by omega) (by omega))
  refine s_callFlour hs (R := I) (P := P) (by rw [q 3 0 (by omega) (by omega)]; omega) (by omega) (fun p hp => by rw [q 4 p (by omega) (by omega)]; exact (dd p (by omega)).1) ?_
  refine B_X11_image_46 hK (k := ?_)
  rw [show (I 44 0).toNat = P by omega] at k
  refine k J e ⟨hn, ht, ?_⟩
  have x0 : J 44 0 = I 44 0 := e.at (by omega)
  have x7 : J 44 7 = I 44 7 := e.at (by omega)
  have hi : imgI J = cpN (u2 (u2 J 44 22 1) 44 23 (I 44 7)) 45 57 (I 44 0) := by
    unfold imgI
    rw [x0, if_neg h0, x7]
  rw [hi]
  have q2 : ∀ x y, x ≠ 23 → ¬ (x = 0 ∧ y = 13) → ¬ (x = 44 ∧ (y = 22 ∨ y = 23)) → x ≠ 57 → (cpN (u2 (u2 J 44 22 1) 44 23 (I 44 7)) 45 57 (I 44 0)) x y = I x y := fun x y h1 h2 h3 h4 => by
    unfold cpN
    rw [if_neg (by omega), uF (by omega), uF (by omega)]
    exact q x y h1 h2
  have w13 : (cpN (u2 (u2 J 44 22 1) 44 23 (I 44 7)) 45 57 (I 44 0)) 0 13 = I 0 10 := by
    unfold cpN
    rw [if_neg (by omega), uN (by decide), uN (by decide)]
    exact v13
  have w22 : (cpN (u2 (u2 J 44 22 1) 44 23 (I 44 7)) 45 57 (I 44 0)) 44 22 = 1 := by
    unfold cpN
    rw [if_neg (by omega), uK (by decide), uA]
  have w23 : (cpN (u2 (u2 J 44 22 1) 44 23 (I 44 7)) 45 57 (I 44 0)) 44 23 = I 44 7 := by
    unfold cpN
    rw [if_neg (by omega), uA]
  have wi : ∀ x, x < 8 → (cpN (u2 (u2 J 44 22 1) 44 23 (I 44 7)) 45 57 (I 44 0)) 23 x = I 4 x := fun x hx => by
    unfold cpN
    rw [if_neg (by omega), uN (by decide), uN (by decide)]
    exact v23 x hx
  have w57 : ∀ x : Nat, (x : Int) < I 44 0 → (cpN (u2 (u2 J 44 22 1) 44 23 (I 44 7)) 45 57 (I 44 0)) 57 x = I 45 x := fun x hx => by
    unfold cpN
    rw [if_pos ⟨rfl, hx⟩, uN (by decide), uN (by decide)]
    exact q 45 x (by omega) (by omega)
  generalize cpN (u2 (u2 J 44 22 1) 44 23 (I 44 7)) 45 57 (I 44 0) = Z at *
  have q44 : ∀ y, y ≠ 22 → y ≠ 23 → Z 44 y = I 44 y := fun y h1 h2 => q2 44 y (by omega) (by omega) (by omega) (by omega)
  have qz : ∀ x y, x ≠ 23 → x ≠ 0 → x ≠ 44 → x ≠ 57 → Z x y = I x y := fun x y h1 h2 h3 h4 => q2 x y h1 (by omega) (by omega) h4
  have eV : rfV I Z := rfV.of (fun x k c => q2 x k (by omega) (by omega) (by omega) (by omega))
  refine R.gen ⟨by rw [eV.ok]; exact s1, ?_, ?_, ?_, ?_, ?_⟩ ?_ ?_ (fun x k h1 h2 => qz x k (by omega) (by omega) (by omega) (by omega)) (q44 _ (by decide) (by decide)) (q44 _ (by decide) (by decide)) (q2 _ _ (by omega) (by omega) (by omega) (by omega)) (q2 _ _ (by omega) (by omega) (by omega) (by omega)) (fun x k h => qz x k (by omega) (by omega) (by omega) (by omega)) ?_ ?_ ?_ ?_
  · rw [q44 3 (by decide) (by decide), q44 5 (by decide) (by decide)]
    exact ⟨s2.1, s2.2.1, fun p hp => by rw [qz 45 p (by omega) (by omega) (by omega) (by omega)]; exact s2.2.2 p hp⟩
  · rw [q44 21 (by decide) (by decide)]; exact s3
  · rw [q44 19 (by decide) (by decide)]; exact s4
  · intro x hx
    rw [q44 19 (by decide) (by decide)] at hx
    rw [qz 56 x (by omega) (by omega) (by omega) (by omega)]
    exact s5 x hx
  · rw [q44 7 (by decide) (by decide)]; exact s6
  · unfold rPg
    rw [qz 1 1 (by omega) (by omega) (by omega) (by omega), q44 19 (by decide) (by decide)]
    refine ⟨r2.1, fun x hx => ?_⟩
    rw [qz 2 x (by omega) (by omega) (by omega) (by omega), qz 56 x (by omega) (by omega) (by omega) (by omega)]
    exact r2.2 x hx
  · unfold rLd
    rw [qz 3 0 (by omega) (by omega) (by omega) (by omega), qz 3 3 (by omega) (by omega) (by omega) (by omega), qz 3 4 (by omega) (by omega) (by omega) (by omega), qz 3 5 (by omega) (by omega) (by omega) (by omega), qz 3 6 (by omega) (by omega) (by omega) (by omega), q44 0 (by decide) (by decide), q44 3 (by decide) (by decide), q44 4 (by decide) (by decide), q44 5 (by decide) (by decide), q44 6 (by decide) (by decide)]
    refine ⟨r3.1, r3.2.1, r3.2.2.1, r3.2.2.2.1, r3.2.2.2.2.1, fun p hp => ?_⟩
    rw [qz 4 p (by omega) (by omega) (by omega) (by omega), qz 5 p (by omega) (by omega) (by omega) (by omega), qz 45 p (by omega) (by omega) (by omega) (by omega), qz 46 p (by omega) (by omega) (by omega) (by omega)]
    exact r3.2.2.2.2.2 p hp
  · exact r6.eqV eV (fun x => ⟨qz 41 x (by omega) (by omega) (by omega) (by omega), qz 42 x (by omega) (by omega) (by omega) (by omega), qz 43 x (by omega) (by omega) (by omega) (by omega)⟩)
  · rw [q2 0 10 (by omega) (by omega) (by omega) (by omega), q44 7 (by decide) (by decide)]; exact r7.1
  · rw [q2 0 11 (by omega) (by omega) (by omega) (by omega), q44 21 (by decide) (by decide)]; exact r7.2
  · unfold rIm
    rw [w22, w13, w23, q44 7 (by decide) (by decide), q44 0 (by decide) (by decide)]
    have r80 := r8.1 h0
    refine ⟨r8.1, Or.inr ⟨rfl, r7.1, by omega, fun _ p hp => ?_⟩⟩
    rw [wi p (by omega), w57 p hp, (dd p hp).1]
    exact ⟨rfl, (o6 p (by omega)).1, s2.2.2 p (by omega)⟩
theorem c_restore {sh : oS} {I : Nat → Nat → Int} {L : Nat → Nat → Int64} {Q : oQ} (hs : Sh sh) {b : Nat} {a : Int} (hb : b ≤ 10000) (R : Rel sh I b a) (k : ∀ J, rfE I J → Rel sh (resI J) b a → Q (some (vI (resV I))) (sh, J, L)) : T_X11_restore [vR 0] (sh, I, L) Q := by
  refine And.intro (Nat.le_of_ble_eq_true rfl) (fun K hK => ?_)
  obtain ⟨hn, ht, R⟩ := R
  obtain ⟨⟨s1, s2, s3, s4, s5, s6⟩, r2, r3, -, -, r6, r7, r8, -⟩ := id R
  have o0 := s1.1
  have o6 := s1.2.2.2.2.2.1
  obtain ⟨d0, -, -, -, -, dd⟩ := id r3
  have e10 := r7.1
  unfold resV at k
  have out : (I 44 22 = 0 ∨ I 44 23 ≠ I 44 7) → K 18 [none] [] (sh, I, L) (0, 0) := fun z => by
    have kk := k I rfl (by
      unfold resI
      rw [if_pos z]
      exact ⟨hn, ht, R⟩)
    rw [if_pos z] at kk
    exact B_X11_restore_18 hK (k := kk)
  have i13 : 0 ≤ I 0 13 ∧ I 0 13 ≤ b := by
    rcases r8.2 with z | ⟨z1, z2, z3, -⟩
    · omega
    · omega
  refine B_X11_restore_0 hK hs (n4 := by omega) (kt := fun z => out ?_) (kf := fun z => ?_)
  · rcases r8.2 with y | ⟨z1, z2, z3, -⟩
    · exact Or.inl y.1
    · omega
  rcases r8.2 with y | ⟨z1, z2, z3, z4⟩
  · exact absurd y.2 z
  refine B_X11_restore_7 hK hs (n15a := by omega) (n15b := by omega) (kt := fun z5 => ?_) (kf := fun z5 => out (Or.inr (by omega)))
  have g : ¬ (I 44 22 = 0 ∨ I 44 23 ≠ I 44 7) := by omega
  have z6 := z4 (by omega)
  rw [if_neg g] at k
  obtain ⟨P, hP⟩ := Int.eq_ofNat_of_zero_le (show 0 ≤ I 44 0 by omega)
  refine B_X11_restore_21 hK hs (c36 := by decide) (k := ?_)
  refine s_forget hs (fun J F k1 k2 => ?_)
  have q : ∀ x y, x ≠ 4 → ¬ (41 ≤ x ∧ x ≤ 43) → J x y = I x y := fun x y h1 h2 => by
    rw [F x y (by simp <;> omega) (by simp)]
    unfold oCpy
    rw [if_neg h1]
  have v4 : ∀ x, x < 8 → J 4 x = I 23 x := fun x hx => by
    rw [F 4 x (by simp) (by simp)]
    unfold oCpy
    rw [if_pos rfl, if_pos (by omega)]
    simp
  have e : rfE I J := rfE.of (fun x y t => q x y (by omega) (by omega))
  refine B_X11_restore_43 hK hs (k := ?_)
  refine s_callFlour hs (R := cpN I 57 45 (I 44 0)) (P := P) (by rw [q 3 0 (by omega) (by omega)]; omega) (by omega) (fun p hp => by
    rw [v4 p (by omega), (z6 p (by omega)).1]
    unfold cpN
    rw [if_pos ⟨rfl, by omega⟩]) ?_
  refine B_X11_restore_50 hK (k := ?_)
  rw [show (I 44 0).toNat = P by omega] at k
  refine k J e ⟨hn, ht, ?_⟩
  have hi : resI J = cpN J 57 45 (I 44 0) := by
    unfold resI
    rw [e.at (a := 44) (k := 22) (by omega), e.at (a := 44) (k := 23) (by omega), e.at (a := 44) (k := 7) (by omega), if_neg g, e.at (a := 44) (k := 0) (by omega)]
  rw [hi]
  have c45 : ∀ x : Nat, (cpN J 57 45 (I 44 0)) 45 x = if (x : Int) < I 44 0 then I 57 x else I 45 x := fun x => by
    unfold cpN
    by_cases t : (x : Int) < I 44 0
    · rw [if_pos ⟨rfl, t⟩, if_pos t, e.at (by omega)]
    · rw [if_neg (fun u => t u.2), if_neg t, e.at (by omega)]
  have cx : ∀ x y, x ≠ 45 → (cpN J 57 45 (I 44 0)) x y = J x y := fun x y h => by
    unfold cpN
    rw [if_neg (fun u => h u.1)]
  refine R.fl (fun x y h1 h2 h3 => ?_) (fun x hx => ?_) (fun x hx => ?_) (fun x hx => ?_) (fun x hx => ?_)
  · rw [cx x y h2]
    exact q x y h1 h3
  · rw [c45]
    by_cases t : (x : Int) < I 44 0
    · rw [if_pos t]
      exact (z6 x t).2
    · rw [if_neg t]
      have := s2.2.2 x hx
      have := o6 x hx
      omega
  · rw [c45, if_pos hx, cx 4 x (by omega), v4 x (by omega)]
    exact (z6 x hx).1
  · rw [cx 41 x (by omega)]; exact (k1 x hx).1
  · rw [cx 43 x (by omega)]; exact k2 x hx
