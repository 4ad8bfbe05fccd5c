/-! the class: fault, land -/
def rfF (I J : Nat → Nat → Int) : Prop := ∀ x y, 44 ≤ x → x ≤ 76 → J x y = I x y
theorem rfF.e {I J : Nat → Nat → Int} (h : rfF I J) : rfE I J := rfE.of (fun x k c => h x k (by omega) (by omega))
theorem rfF.fn {I J : Nat → Nat → Int} (h : rfF I J) {x : Nat} (h1 : 44 ≤ x) (h2 : x ≤ 76) : J x = I x := by
  funext y
  exact h x y h1 h2
theorem rfF.la {I J : Nat → Nat → Int} (h : rfF I J) : la0 J = la0 I := by
  unfold la0
  rw [h.fn (x := 58) (by decide) (by decide), h.fn (x := 59) (by decide) (by decide), h.fn (x := 60) (by decide) (by decide)]
theorem rfF.ma {I J : Nat → Nat → Int} (h : rfF I J) : ma0 J = ma0 I := by
  unfold ma0
  rw [h.fn (x := 61) (by decide) (by decide), h.fn (x := 62) (by decide) (by decide), h.fn (x := 63) (by decide) (by decide), h 44 37 (by decide) (by decide)]
theorem rfF.se {I J : Nat → Nat → Int} (h : rfF I J) : se0 J = se0 I := by
  unfold se0
  rw [h.fn (x := 64) (by decide) (by decide)]
theorem RelX.rd {sh : oS} {I J : Nat → Nat → Int} {b hn ht : Nat} {a : Int} (h : RelX sh I b hn ht a) (q : ∀ x k, ¬ scr x k → ¬ (hn ≤ x ∧ x ≤ hn + 3) → ¬ (ht < x ∧ x ≤ ht + 3) → ¬ (x = ht ∧ 2 ≤ k) → J x k = I x k) : RelX sh J b hn ht a ∧ rfF I J := by
  obtain ⟨x1, x2, x3, x4, x5, x6, x7, x8, x9, x10⟩ := id h.2.2.2.2.2.2.2.2
  have m2 := x3.2
  have t2 := x5.2
  have q2 : ∀ x k, 41 ≤ x → x ≤ 76 → J x k = I x k := fun x k h1 h2 => q x k (by unfold scr; omega) (by omega) (by omega) (by omega)
  have e : rfF I J := fun x y h1 h2 => q2 x y (by omega) h2
  refine ⟨h.fr e.e (h.2.2.2.2.2.1.eq e.e (fun x => ⟨q2 41 x (by omega) (by omega), q2 42 x (by omega) (by omega), q2 43 x (by omega) (by omega)⟩)) ?_ (fun x k h1 h2 _ h4 h5 h6 => q x k h2 h4 h5 h6), e⟩
  rw [q 0 11 (by unfold scr; omega) (by omega) (by omega) (by omega), q2 44 21 (by omega) (by omega)]
  exact h.2.2.2.2.2.2.1.2
theorem RelX.pgB {sh : oS} {I : Nat → Nat → Int} {b hn ht : Nat} {a : Int} (h : RelX sh I b hn ht a) : pgB I (I 56) (I 44 19).toNat := by
  have s4 := h.1.2.2.2.1
  refine ⟨by rw [h.2.1.1]; omega, by omega, fun x hx => ⟨h.2.1.2 x (by omega), h.1.2.2.2.2.1 x (by omega)⟩⟩
theorem la0_3 {I : Nat → Nat → Int} : (up (I 60) 3 0) 3 = 0 := by simp [up]
theorem fauR_un {I J : Nat → Nat → Int} {sort r r2 : Int} (e : rfF I J) (h : fauR I sort r) (g : fauR J sort r2) : r2 = r := by
  unfold fauR at g
  rw [e.la, e.ma, e.se, e.fn (x := 56) (by decide) (by decide), e 44 19 (by decide) (by decide)] at g
  rcases h with ⟨h1, n, s, h2, h3⟩ | ⟨h1, n, s, h2, h3⟩ | ⟨h1, n, s, h2, h3⟩ | ⟨h1, h3⟩
  · rcases g with ⟨g1, n2, s2, g2, g3⟩ | ⟨g1, -⟩ | ⟨g1, -⟩ | ⟨g1, -⟩
    · have := (rdEnd_un h2 g2).1; omega
    all_goals omega
  · rcases g with ⟨g1, -⟩ | ⟨g1, n2, s2, g2, g3⟩ | ⟨g1, -⟩ | ⟨g1, -⟩
    · omega
    · have := (rdEnd_un h2 g2).1; omega
    all_goals omega
  · rcases g with ⟨g1, -⟩ | ⟨g1, -⟩ | ⟨g1, n2, s2, g2, g3⟩ | ⟨g1, -⟩
    · omega
    · omega
    · have := (rdEnd_un h2 g2).1; omega
    · omega
  · rcases g with ⟨g1, -⟩ | ⟨g1, -⟩ | ⟨g1, -⟩ | ⟨g1, g3⟩ <;> omega
theorem c_fault {sh : oS} {I : Nat → Nat → Int} {L : Nat → Nat → Int64} {Q : oQ} (hs : Sh sh) {b : Nat} {a sort : Int} (R : Rel sh I b a) (hso : inR sort) (k : ∀ J r, Rel sh J b a → rfF I J → fauR I sort r → Q (some (vI r)) (sh, J, L)) : T_X11_fault [vR 0, vI sort] (sh, I, L) Q := by
  refine And.intro (Nat.le_of_ble_eq_true rfl) (fun K hK => ?_)
  obtain ⟨hn, ht, R⟩ := R
  obtain ⟨x1, x2, x3, x4, x5, x6, x7, x8, x9, x10⟩ := id R.2.2.2.2.2.2.2.2
  have pb := R.pgB
  refine B_X11_fault_0 hK (n1 := hso) (k := ?_)
  by_cases c : 0 ≤ sort ∧ sort ≤ 2
  · have : sort = 0 ∨ sort = 1 ∨ sort = 2 := by omega
    rcases this with e | e | e
    · rw [swT_in 0 28 (by omega) (by rfl)]
      refine B_X11_fault_28 hK hs (k := ?_)
      refine s_rdLand hs pb (s0 := la0 I) rfl la0_3 (fun J n s r F j2 hE _ => ?_)
      refine B_X11_fault_39 hK (k := B_X11_fault_76 hK hs (k := ?_))
      obtain ⟨R2, E2⟩ := R.rd (J := J) (fun x k h1 _ _ _ => F x k (by unfold scr at h1; simp <;> omega) (by unfold scr at h1; simp <;> omega))
      exact k J _ ⟨hn, ht, R2⟩ E2 (Or.inl ⟨e, n, s, hE, j2⟩)
    · rw [swT_in 1 43 (by omega) (by rfl)]
      refine B_X11_fault_43 hK hs (r0_6 := x1) (Aq0_6 := x3.1) (k := ?_)
      refine s_rdMarch hs x3 pb (s0 := ma0 I) rfl (fun J n s r F j2 hE _ => ?_)
      refine B_X11_fault_54 hK (k := B_X11_fault_76 hK hs (k := ?_))
      obtain ⟨R2, E2⟩ := R.rd (J := J) (fun x k h1 h2 _ _ => F x k (by simp; omega) (by unfold scr at h1; simp <;> omega))
      exact k J _ ⟨hn, ht, R2⟩ E2 (Or.inr (Or.inl ⟨e, n, s, hE, j2⟩))
    · rw [swT_in 2 58 (by omega) (by rfl)]
      refine B_X11_fault_58 hK hs (r0_7 := x2) (Aq0_7 := x5.1) (k := ?_)
      refine s_rdTold hs x5 pb (s0 := se0 I) rfl (fun J n s r F t0 t1 j2 hE _ => ?_)
      refine B_X11_fault_69 hK (k := B_X11_fault_76 hK hs (k := ?_))
      obtain ⟨R2, E2⟩ := R.rd (J := J) (fun x k h1 _ h3 h4 => by
        by_cases z : x = ht
        · have : k = 0 ∨ k = 1 := by omega
          rcases this with u | u <;> rw [z, u]
          · exact t0
          · exact t1
        · exact F x k (by simp; omega) (by unfold scr at h1; simp <;> omega))
      exact k J _ ⟨hn, ht, R2⟩ E2 (Or.inr (Or.inr (Or.inl ⟨e, n, s, hE, j2⟩)))
  · rw [swT_out (by simp; omega)]
    exact hK.2 [false, false] 73 [some (vR 0), none] [] (sh, I, L) (0, 0) (B_X11_fault_73 hK (k := k I _ ⟨hn, ht, R⟩ (fun _ _ _ _ => rfl) (Or.inr (Or.inr (Or.inr ⟨c, rfl⟩)))))
set_option maxHeartbeats 1000000 in
theorem c_land {sh : oS} {I : Nat → Nat → Int} {L : Nat → Nat → Int64} {Q : oQ} (hs : Sh sh) {b : Nat} {a : Int} (R : Rel sh I b a)
    (k1 : ∀ J (n : Nat) (s : laS), Rel sh J b a → rfF I J → rdEnd laStep (la0 I) (I 56) (I 44 19).toNat n s → ¬ ((n : Int) = I 44 19 ∧ laE s) → Q (some (vI (-103))) (sh, J, L))
    (k2 : ∀ J (n : Nat) (s : laS), rfF I J → rdEnd laStep (la0 I) (I 56) (I 44 19).toNat n s → ((n : Int) = I 44 19 ∧ laE s) → (∀ Z, lanJ J Z s → laOK s → Rel sh Z (b + 1) a) → Q (some (vI s.2.1)) (sh, J, L)) : T_X11_land [vR 0] (sh, I, L) Q := by
  refine And.intro (Nat.le_of_ble_eq_true rfl) (fun K hK => ?_)
  obtain ⟨hn, ht, R⟩ := R
  have pb := R.pgB
  have s4 := R.1.2.2.2.1
  refine B_X11_land_0 hK hs (k := ?_)
  refine s_rdLand hs pb (s0 := la0 I) rfl la0_3 (fun J n s r F j2 hE hr => ?_)
  obtain ⟨R2, E2⟩ := R.rd (J := J) (fun x k h1 _ _ _ => F x k (by unfold scr at h1; simp <;> omega) (by unfold scr at h1; simp <;> omega))
  refine B_X11_land_11 hK (n11 := by omega) (kt := fun z => ?_) (kf := fun z => ?_)
  rotate_left
  · refine B_X11_land_14 hK (k := k1 J n s ⟨hn, ht, R2⟩ E2 hE (fun u => ?_))
    rcases hr with ⟨h, -⟩ | ⟨-, h⟩
    · exact z (by omega)
    · exact h ⟨by omega, u.2⟩
  rcases hr with ⟨-, ⟨hn1, hE1⟩, l0, lf, l3, l4, l5, l6⟩ | ⟨h, -⟩
  rotate_left
  · exact absurd h z
  refine B_X11_land_17 hK hs (k := ?_)
  refine s_become (landT hs) (landO hs) (Or.inr ⟨rfl, rfl, rfl, rfl, rfl, rfl⟩) (fun J2 F2 a2 c2 => ?_)
  refine B_X11_land_28 hK hs (k := ?_)
  refine s_forget hs (fun J3 F3 f1 f2 => ?_)
  refine B_X11_land_50 hK hs (k := ?_)
  have g : ∀ x y, ¬ (3 ≤ x ∧ x ≤ 5) → ¬ (x = 0 ∧ y = 10) → ¬ (x = 1 ∧ y = 1) → ¬ (41 ≤ x ∧ x ≤ 43) → J3 x y = J x y := fun x y h1 h2 h3 h4 => by
    rw [F3 x y (by simp <;> omega) (by simp), uF (by omega), uF (by omega), F2 x y (by simp <;> omega) (by simp <;> omega)]
  have g3 : ∀ x y, 3 ≤ x → x ≤ 5 → J3 x y = J2 x y := fun x y h1 h2 => by
    rw [F3 x y (by simp <;> omega) (by simp), uN (by omega), uN (by omega)]
  have g10 : J3 0 10 = J 0 10 + 1 := by
    rw [F3 0 10 (by simp) (by simp), uN (by decide), uA, F2 0 10 (by simp) (by simp)]
  have g11 : J3 1 1 = 0 := by
    rw [F3 1 1 (by simp) (by simp), uA]
  have E3 : rfF I J3 := fun x y h1 h2 => by
    rw [g x y (by omega) (by omega) (by omega) (by omega)]
    exact E2 x y h1 h2
  rw [g3 3 0 (by omega) (by omega), a2.1, l0]
  refine k2 J3 n s E3 hE ⟨by omega, hE1⟩ (fun Z hZ sok => ⟨hn, ht, ?_⟩)
  obtain ⟨FZ, z0, z45, z46, z3, z4, z5, z6, z7, z19⟩ := hZ
  obtain ⟨o1, o2, o3, o4, o5, o6, o7, o8, o9, o10, o11, o12, o13, o14, o15, o16⟩ := sok
  have hE2 : s.1 = 12 ∨ 13 < s.1 := hE1
  have P2 := o5 (by omega)
  have b3 := o10 (by omega)
  have b4 := o11 (by omega)
  have b5 := o12 (by omega)
  have b6 : 0 ≤ s.2.2.2.2 3 ∧ s.2.2.2.2 3 ≤ 999 := by
    have : s.1 = 12 ∨ s.1 = 14 ∨ s.1 = 15 ∨ s.1 = 16 := by omega
    rcases this with u | u | u | u
    · have := o13 (by omega); omega
    · have := o14 u; omega
    · have := o15 u; omega
    · have := o16 u; omega
  obtain ⟨⟨s1, s2, s3, s44, s5, s6⟩, r2, r3, -, -, r6, r7, r8, -⟩ := id R2
  have ZJ : ∀ x y, x ≤ 43 ∨ 77 ≤ x → Z x y = J3 x y := fun x y h => FZ x y (by simp <;> omega) (by simp <;> omega)
  have Z44 : ∀ y, y ≠ 0 → y ≠ 3 → y ≠ 4 → y ≠ 5 → y ≠ 6 → y ≠ 7 → y ≠ 19 → y < 24 → Z 44 y = J 44 y := fun y h0 h3 h4 h5 h6 h7 h19 h24 => by
    rw [FZ 44 y (by simp) (by simp <;> omega)]
    exact g 44 y (by omega) (by omega) (by omega) (by omega)
  have ZM : ∀ x y, 47 ≤ x → x ≤ 57 → Z x y = J x y := fun x y h1 h2 => by
    rw [FZ x y (by simp <;> omega) (by simp <;> omega)]
    exact g x y (by omega) (by omega) (by omega) (by omega)
  have ZC : ∀ x y, (x ≤ 43 ∨ 77 ≤ x) → ¬ (3 ≤ x ∧ x ≤ 5) → ¬ (x = 0 ∧ y = 10) → ¬ (x = 1 ∧ y = 1) → ¬ (41 ≤ x ∧ x ≤ 43) → Z x y = J x y := fun x y h0 h1 h2 h3 h4 => by
    rw [ZJ x y h0]
    exact g x y h1 h2 h3 h4
  have j45 : ∀ p, J3 45 p = J 45 p := fun p => g 45 p (by omega) (by omega) (by omega) (by omega)
  have j46 : ∀ p, J3 46 p = J 46 p := fun p => g 46 p (by omega) (by omega) (by omega) (by omega)
  have j7 : J3 44 7 = J 44 7 := g 44 7 (by omega) (by omega) (by omega) (by omega)
  have okZ : mOK Z := by
    have e : rfV (fun h k => if h = 44 ∧ k ≤ 6 then Z 44 k else if h = 45 ∨ h = 46 then Z h k else J h k) Z := rfV.of (fun x y c => by
      by_cases u : x = 44 ∧ y ≤ 6
      · rw [if_pos u, u.1]
      · rw [if_neg u]
        by_cases v : x = 45 ∨ x = 46
        · rw [if_pos v]
        · rw [if_neg v]
          by_cases w : x = 44
          · rw [w]
            exact Z44 y (by omega) (by omega) (by omega) (by omega) (by omega) (by omega) (by omega) (by omega)
          · exact ZM x y (by omega) (by omega))
    rw [e.ok]
    obtain ⟨h1, h2, h3, h4, h5, h6, h7, h8, h9, h10, h11⟩ := s1
    refine ⟨?_, ?_, ?_, ?_, ?_, fun p hp => ?_, fun p hp => ?_, h8, h9, h10, h11⟩
    · show Z 44 0 = 0 ∨ (2 ≤ Z 44 0 ∧ Z 44 0 ≤ 8)
      omega
    · show 0 ≤ Z 44 3 ∧ Z 44 3 ≤ 100
      omega
    · show 0 ≤ Z 44 4 ∧ Z 44 4 ≤ 9
      omega
    · show 0 ≤ Z 44 5 ∧ Z 44 5 ≤ 10
      omega
    · show 0 ≤ Z 44 6 ∧ Z 44 6 ≤ 999
      omega
    · show 0 ≤ Z 45 p ∧ Z 45 p ≤ 1009
      rw [z45]
      by_cases u : (p : Int) < s.2.1
      · rw [if_pos u]
        have := (o6 p u).1
        omega
      · rw [if_neg u, j45]
        exact h6 p hp
    · show Z 46 p = 0 ∨ Z 46 p = 1
      rw [z46]
      by_cases u : (p : Int) < s.2.1
      · rw [if_pos u]
        exact (o6 p u).2
      · rw [if_neg u, j46]
        exact h7 p hp
  refine R2.gen ⟨okZ, ⟨by omega, by omega, fun p hp => ?_⟩, ?_, by rw [z19]; decide, fun x hx => by rw [z19] at hx; omega, ?_⟩ ⟨by rw [ZJ 1 1 (by omega), g11, z19], fun x hx => by rw [z19] at hx; omega⟩ ?_ (fun x y h1 h2 => ZM x y h1 (by omega)) (Z44 8 (by decide) (by decide) (by decide) (by decide) (by decide) (by decide) (by decide) (by decide)) (Z44 14 (by decide) (by decide) (by decide) (by decide) (by decide) (by decide) (by decide) (by decide)) (ZC 0 8 (by omega) (by omega) (by omega) (by omega) (by omega)) (ZC 0 9 (by omega) (by omega) (by omega) (by omega) (by omega)) (fun x y h => ZC x y (by omega) (by omega) (by omega) (by omega) (by omega)) (rKc.fgt (fun x hx => by rw [ZJ 41 x (by omega)]; exact (f1 x hx).1) (fun x hx => by rw [ZJ 43 x (by omega)]; exact f2 x hx)) ?_ ?_ ?_
  · rw [z45]
    by_cases u : (p : Int) < s.2.1
    · rw [if_pos u]
      exact (o6 p u).1.2
    · rw [if_neg u, j45]
      exact s2.2.2 p hp
  · rw [Z44 21 (by decide) (by decide) (by decide) (by decide) (by decide) (by decide) (by decide) (by decide)]
    exact s3
  · rw [z7, j7]
    omega
  · unfold rLd
    rw [ZJ 3 0 (by omega), ZJ 3 3 (by omega), ZJ 3 4 (by omega), ZJ 3 5 (by omega), ZJ 3 6 (by omega), g3 3 0 (by omega) (by omega), g3 3 3 (by omega) (by omega), g3 3 4 (by omega) (by omega), g3 3 5 (by omega) (by omega), g3 3 6 (by omega) (by omega), a2.1, a2.2.1, a2.2.2.1, a2.2.2.2.1, a2.2.2.2.2, z0, z3, z4, z5, z6]
    refine ⟨l0, l3, l4, l5, l6, fun p hp => ?_⟩
    rw [ZJ 4 p (by omega), ZJ 5 p (by omega), g3 4 p (by omega) (by omega), g3 5 p (by omega) (by omega), (c2 p (by omega)).1, (c2 p (by omega)).2, z45, z46, if_pos hp, if_pos hp]
    exact lf p hp
  · rw [ZJ 0 10 (by omega), g10, z7, j7, r7.1]
  · rw [ZC 0 11 (by omega) (by omega) (by omega) (by omega) (by omega), Z44 21 (by decide) (by decide) (by decide) (by decide) (by decide) (by decide) (by decide) (by decide)]
    exact r7.2
  · unfold rIm
    rw [z7, j7, ZC 0 13 (by omega) (by omega) (by omega) (by omega) (by omega), Z44 22 (by decide) (by decide) (by decide) (by decide) (by decide) (by decide) (by decide) (by decide), Z44 23 (by decide) (by decide) (by decide) (by decide) (by decide) (by decide) (by decide) (by decide)]
    refine ⟨fun _ => by omega, ?_⟩
    rcases r8.2 with u | ⟨u1, u2, u3, u4⟩
    · exact Or.inl u
    · exact Or.inr ⟨u1, u2, by omega, fun u => by omega⟩
