/-! the class answers: mean -/
theorem s_chancesOf {sh : oS} {I : Nat → Nat → Int} {L : Nat → Nat → Int64} {Q : oQ} {h : Nat} (A : MA sh h) {way : Int} (h1 : 0 ≤ I h 1 ∧ I h 1 ≤ 2) (k : Q (some (vI (lkl (I (h + 3)) way (I h 1).toNat))) (sh, I, L)) : T_X6_chancesOf [vR h, vI way] (sh, I, L) Q := by
  refine And.intro (Nat.le_of_ble_eq_true rfl) (fun K hK => ?_)
  have lp : ∀ (x c : Nat), (c : Int) + x = I h 1 → K 4 [some (vR h), some (vI way), some (vI (lkl (I (h + 3)) way c)), some (vI (c : Int))] [] (sh, I, L) (0, 0) := by
    intro x
    induction x with
    | zero =>
      intro c hc
      refine B_X6_chancesOf_4 hK (Ah0 := A.1) (n9a := by omega) (n9b := by omega) (kt := fun _ => ?_) (kf := fun z => absurd (by omega) z)
      rw [show (I h 1).toNat = c by omega] at k
      exact B_X6_chancesOf_48 hK (k := k)
    | succ x ih =>
      intro c hc
      refine B_X6_chancesOf_4 hK (Ah0 := A.1) (n9a := by omega) (n9b := by omega) (kt := fun z => absurd z (by omega)) (kf := fun _ => ?_)
      have g := ih (c + 1) (by omega)
      unfold lkl at g
      refine B_X6_chancesOf_12 hK (n19a := by have := fAnd1_bd (fShr way (c : Int)); omega) (kt := fun z => ?_) (kf := fun z => ?_)
      · rw [if_neg z] at g
        refine B_X6_chancesOf_31 hK (Ah0 := A.1) (b38 := by omega) (k := B_X6_chancesOf_40 hK (k := ?_))
        rw [Int.toNat_natCast]
        exact g
      · rw [if_pos (Classical.not_not.1 z)] at g
        refine B_X6_chancesOf_22 hK (Ah0 := A.1) (b27 := by omega) (k := B_X6_chancesOf_40 hK (k := ?_))
        rw [Int.toNat_natCast]
        exact g
  exact B_X6_chancesOf_0 hK (k := lp (I h 1).toNat 0 (by omega))
def allC (c : Int) : Int := if c = 0 then 1 else if c = 1 then 10 else 100
theorem s_allChances {sh : oS} {I : Nat → Nat → Int} {L : Nat → Nat → Int64} {Q : oQ} {h : Nat} (A : MA sh h) (h1 : 0 ≤ I h 1 ∧ I h 1 ≤ 2) (k : Q (some (vI (allC (I h 1)))) (sh, I, L)) : T_X6_allChances [vR h] (sh, I, L) Q := by
  refine And.intro (Nat.le_of_ble_eq_true rfl) (fun K hK => ?_)
  unfold allC at k
  refine B_X6_allChances_0 hK (Ah0 := A.1) (n4 := by omega) (kt := fun z => ?_) (kf := fun z => ?_)
  · rw [if_neg z] at k
    refine B_X6_allChances_11 hK (Ah0 := A.1) (n16a := by omega) (kt := fun y => ?_) (kf := fun y => ?_)
    · rw [if_neg y] at k
      exact B_X6_allChances_24 hK (k := B_X6_allChances_26 hK (k := k))
    · rw [if_pos (Classical.not_not.1 y)] at k
      exact B_X6_allChances_19 hK (k := B_X6_allChances_26 hK (k := k))
  · rw [if_pos (Classical.not_not.1 z)] at k
    exact B_X6_allChances_7 hK (k := B_X6_allChances_26 hK (k := k))
theorem mod_half {y r : Nat} (h0 : 0 < r) (h : r < y) : 2 * (y % r) < y := by
  have a := Nat.mod_lt y h0
  have b : y % r ≤ y - r := by
    rw [Nat.mod_eq_sub_mod (by omega)]
    exact Nat.mod_le _ _
  omega
theorem s_commonDivisor {sh : oS} {I : Nat → Nat → Int} {L : Nat → Nat → Int64} {Q : oQ} {a b : Nat} (ha : inR a) (hb : 0 < b ∧ b ≤ 100) (k : Q (some (vI ((Nat.gcd a b : Nat) : Int))) (sh, I, L)) : T_X11_commonDivisor [vI a, vI b] (sh, I, L) Q := by
  refine And.intro (Nat.le_of_ble_eq_true rfl) (fun K hK => ?_)
  have st : ∀ x y i : Nat, inR x → inR y → i < 64 → Nat.gcd x y = Nat.gcd a b → (0 < y → Nat.gcd y (x % y) = Nat.gcd a b → x % y < y → K 7 [none, none, some (vI (y : Int)), some (vI ((x % y : Nat) : Int)), some (vI ((i + 1 : Nat) : Int)), none] [] (sh, I, L) (0, 0)) → K 7 [none, none, some (vI (x : Int)), some (vI (y : Int)), some (vI (i : Int)), none] [] (sh, I, L) (0, 0) := by
    intro x y i hx hy hi hg nx
    refine B_X11_commonDivisor_7 hK (n11a := by omega) (kt := fun z => absurd z (by omega)) (kf := fun _ => ?_)
    refine B_X11_commonDivisor_14 hK (n15 := hy) (kt := fun z => ?_) (kf := fun z => ?_)
    · have y0 : y = 0 := by omega
      rw [y0, Nat.gcd_zero_right] at hg
      refine B_X11_commonDivisor_34 hK (k := ?_)
      rw [hg]
      exact k
    · refine B_X11_commonDivisor_18 hK (n20a := hx) (n20b := hy) (z20 := by omega) (k := ?_)
      have := nx (by omega) (by rw [← hg, Nat.gcd_comm x y, Nat.gcd_rec y x, Nat.gcd_comm]) (Nat.mod_lt _ (by omega))
      rw [Int.tmod_eq_emod_of_nonneg (by omega)]
      exact this
  have lp : ∀ (n x y i : Nat), y < x → x ≤ 100 → y < 2 ^ n → i + 2 * n ≤ 60 → Nat.gcd x y = Nat.gcd a b → K 7 [none, none, some (vI (x : Int)), some (vI (y : Int)), some (vI (i : Int)), none] [] (sh, I, L) (0, 0) := by
    intro n
    induction n with
    | zero =>
      intro x y i h1 h2 h3 h4 hg
      refine st x y i (by omega) (by omega) (by omega) hg (fun z _ _ => ?_)
      rw [Nat.pow_zero] at h3
      omega
    | succ n ih =>
      intro x y i h1 h2 h3 h4 hg
      refine st x y i (by omega) (by omega) (by omega) hg (fun z g2 l2 => ?_)
      refine st y (x % y) (i + 1) (by omega) (by omega) (by omega) g2 (fun z2 g3 l3 => ?_)
      have hh := mod_half z2 l2
      rw [Nat.pow_succ] at h3
      exact ih _ _ _ l3 (by omega) (by omega) (by omega) g3
  refine B_X11_commonDivisor_0 hK (k := ?_)
  refine st a b 0 ha (by omega) (by decide) rfl (fun z g2 l2 => ?_)
  exact lp 7 _ _ _ l2 (by omega) (by omega) (by omega) g2
theorem mnF_cg {E E2 : Nat → Int × Int} {f g : Nat → Int} : ∀ n : Nat, (∀ w, w < n → E w = E2 w ∧ f w = g w) → mnF E f n = mnF E2 g n
  | 0, _ => rfl
  | n + 1, h => by
    unfold mnF
    rw [mnF_cg n (fun w hw => h w (by omega)), (h n (by omega)).1, (h n (by omega)).2]
theorem lkl_cg {T T2 : Nat → Int} {way : Int} : ∀ n : Nat, (∀ c, c < n → T c = T2 c) → lkl T way n = lkl T2 way n
  | 0, _ => rfl
  | n + 1, h => by
    unfold lkl
    rw [lkl_cg n (fun c hc => h c (by omega)), h n (by omega)]
theorem mn_all (E : Nat → Int × Int) (T : Nat → Int) {c : Int} (hc : 0 ≤ c ∧ c ≤ 2) : (mnF E (fun w => lkl T (w : Int) c.toNat) (fShl 1 c - 1 + 1).toNat).2.2 = allC c := by
  have : c = 0 ∨ c = 1 ∨ c = 2 := by omega
  rcases this with e | e | e
  · subst e; rfl
  · subst e
    show (((0 : Int) + 1 * (10 - T 0)) + 1 * T 0) = 10
    omega
  · subst e
    show ((((0 : Int) + 1 * (10 - T 0) * (10 - T 1)) + 1 * T 0 * (10 - T 1)) + 1 * (10 - T 0) * T 1) + 1 * T 0 * T 1 = 100
    generalize T 0 = x
    generalize T 1 = y
    rw [Int.one_mul, Int.one_mul, Int.zero_add, ← Int.add_mul, Int.add_assoc, ← Int.add_mul]
    rw [show 10 - x + x = 10 by omega]
    omega
/-- what is kept for a plan and a march, up to a way -/
def kpt (I J : Nat → Nat → Int) (m p n : Nat) : Prop := ∀ w : Nat, w < n → (J 41 (16 * p + 4 * m + w), J 42 (16 * p + 4 * m + w)) = pEv I m p 0 w (I 47 m - 1) 0 ∧ (0 ≤ J 41 (16 * p + 4 * m + w) ∧ J 41 (16 * p + 4 * m + w) ≤ 990) ∧ 0 ≤ J 42 (16 * p + 4 * m + w) ∧ J 42 (16 * p + 4 * m + w) ≤ 13860
theorem kpt.s {I J K : Nat → Nat → Int} {m p n : Nat} (h : kpt I J m p n) (q : ∀ x, J 41 x ≠ -1 → K 41 x = J 41 x ∧ K 42 x = J 42 x) (e : (K 41 (16 * p + 4 * m + n), K 42 (16 * p + 4 * m + n)) = pEv I m p 0 n (I 47 m - 1) 0) (r : (0 ≤ K 41 (16 * p + 4 * m + n) ∧ K 41 (16 * p + 4 * m + n) ≤ 990) ∧ 0 ≤ K 42 (16 * p + 4 * m + n) ∧ K 42 (16 * p + 4 * m + n) ≤ 13860) : kpt I K m p (n + 1) := fun w hw => by
  by_cases z : w < n
  · have a := h w z
    have := q (16 * p + 4 * m + w) (by omega)
    rw [this.1, this.2]
    exact a
  · have : w = n := by omega
    rw [this]
    exact ⟨e, r⟩
set_option maxHeartbeats 1000000 in
theorem s_weighed {sh : oS} {I J : Nat → Nat → Int} {L : Nat → Nat → Int64} {Q : oQ} (hs : Sh sh) {h m p : Nat} {what : Int} (s9 : sR sh 9 m = some h) (mr : mRel sh J m h) (e : rfE I J) (ok : mOK I) (hm : (m : Int) < I 44 8) (hp : (p : Int) < I 44 14) (hw : inR what) (kp : kpt I J m p (vOn I m + 1).toNat)
    (k : ((0 ≤ (mnS I m p).1 ∧ (mnS I m p).1 ≤ 1000000) ∧ 0 ≤ (mnS I m p).2.1 ∧ (mnS I m p).2.1 ≤ 10000000) → Q (some (vI (if what = 0 then (mnS I m p).1 else (mnS I m p).2.1))) (sh, J, L)) : T_X11_weighed [vR 0, vI (p : Int), vI (m : Int), vI what] (sh, J, L) Q := by
  refine And.intro (Nat.le_of_ble_eq_true rfl) (fun K hK => ?_)
  have o8 := ok.2.2.2.2.2.2.2.1
  have o10 := ok.2.2.2.2.2.2.2.2.2.1
  have om := ok.2.2.2.2.2.2.2.2.1 m hm
  have on := vOn_bd om.2.1
  have h1 : J h 1 = I 50 m := by rw [mr.2.2.2.1]; exact e.at (by omega)
  have ht : ∀ c : Nat, (c : Int) < I 50 m → J (h + 3) c = I 51 (2 * m + c) := fun c hc => by
    rw [mr.2.2.2.2.2 c (by rw [e.at (by omega)]; exact hc)]
    exact e.at (by omega)
  have ev : fShl 1 (J h 1) - 1 = vOn I m := by rw [h1]; rfl
  unfold mnS at k
  generalize hE : (fun w : Nat => pEv I m p 0 (w : Int) (I 47 m - 1) 0) = E at k
  generalize hT : (fun c => I 51 (2 * m + c)) = T at k
  have tb : ∀ c : Nat, (c : Int) < I 50 m → 1 ≤ T c ∧ T c ≤ 9 := fun c hc => by rw [← hT]; exact om.2.2.2 c hc
  have lb : ∀ w : Nat, 1 ≤ lkl T (w : Int) (I 50 m).toNat ∧ lkl T (w : Int) (I 50 m).toNat ≤ 81 := fun w => by
    have a := lkl_bd (T := T) (way := (w : Int)) (I 50 m).toNat (by omega) (fun x hx => tb x (by omega))
    have : (I 50 m).toNat = 0 ∨ (I 50 m).toNat = 1 ∨ (I 50 m).toNat = 2 := by omega
    rcases this with e | e | e <;> rw [e] at a ⊢ <;> simp at a <;> omega
  generalize hlk : (fun w : Nat => lkl T (w : Int) (I 50 m).toNat) = lk at k
  have lw : ∀ w : Nat, lkl (J (h + 3)) (w : Int) (J h 1).toNat = lk w := fun w => by
    rw [h1, ← hlk]
    exact lkl_cg _ (fun c hc => by rw [ht c (by omega), ← hT])
  have lp : ∀ (x w : Nat), (w : Int) + x = vOn I m + 1 → (0 ≤ (mnF E lk w).1 ∧ (mnF E lk w).1 ≤ w * 100000) ∧ (0 ≤ (mnF E lk w).2.1 ∧ (mnF E lk w).2.1 ≤ w * 2000000) → K 14 [some (vR 0), some (vI (p : Int)), some (vI (m : Int)), some (vI what), some (vR h), some (vI (if what = 0 then (mnF E lk w).1 else (mnF E lk w).2.1)), some (vI (w : Int)), none] [] (sh, J, L) (0, 0) := by
    intro x
    induction x with
    | zero =>
      intro w hx bd
      refine B_X11_weighed_14 hK (Ah4 := mr.1.1) (k := ?_)
      refine s_wayOn mr.1 ?_
      rw [ev]
      refine B_X11_weighed_21 hK (n21a := by omega) (n21b := by omega) (kt := fun _ => ?_) (kf := fun z => absurd (by omega) z)
      rw [show (vOn I m + 1).toNat = w by omega] at k
      exact B_X11_weighed_73 hK (k := k (by omega))
    | succ x ih =>
      intro w hx bd
      refine B_X11_weighed_14 hK (Ah4 := mr.1.1) (k := ?_)
      refine s_wayOn mr.1 ?_
      rw [ev]
      refine B_X11_weighed_21 hK (n21a := by omega) (n21b := by omega) (kt := fun z => absurd z (by omega)) (kf := fun _ => ?_)
      refine B_X11_weighed_24 hK (k := ?_)
      refine And.intro (Nat.le_of_ble_eq_true rfl) (fun K2 hK2 => ?_)
      refine B_X11_keptAt_0 hK2 (k := ?_)
      rw [show (((p : Int) * 4 + (m : Int)) * 4 + (w : Int)) = ((16 * p + 4 * m + w : Nat) : Int) by omega]
      refine B_X11_weighed_31 hK (Ah4 := mr.1.1) (k := ?_)
      refine s_chancesOf mr.1 (by omega) ?_
      rw [lw]
      obtain ⟨k1, k2, k3⟩ := kp w (by omega)
      have k1 : (J 41 (16 * p + 4 * m + w), J 42 (16 * p + 4 * m + w)) = E w := by rw [k1, ← hE]
      have lbw := lb w
      have elk : lkl T (w : Int) (I 50 m).toNat = lk w := by rw [← hlk]
      rw [elk] at lbw
      have a1 : 0 ≤ lk w * J 41 (16 * p + 4 * m + w) := Int.mul_nonneg (by omega) k2.1
      have a2 : lk w * J 41 (16 * p + 4 * m + w) ≤ 81 * 990 := Int.mul_le_mul lbw.2 k2.2 k2.1 (by decide)
      have a3 : 0 ≤ lk w * J 42 (16 * p + 4 * m + w) := Int.mul_nonneg (by omega) k3.1
      have a4 : lk w * J 42 (16 * p + 4 * m + w) ≤ 81 * 13860 := Int.mul_le_mul lbw.2 k3.2 k3.1 (by decide)
      have g := ih (w + 1) (by omega)
      unfold mnF at g
      rw [← k1] at g
      dsimp only at g
      have g := g (by omega)
      refine B_X11_weighed_42 hK (n43 := hw) (kt := fun z => ?_) (kf := fun z => ?_)
      · rw [if_neg z] at g ⊢
        refine B_X11_weighed_56 hK hs (b62 := by omega) (k := B_X11_weighed_63 hK (k := ?_))
        rw [Int.toNat_natCast]
        exact g
      · rw [if_pos (Classical.not_not.1 z)] at g ⊢
        refine B_X11_weighed_46 hK hs (b52 := by omega) (k := B_X11_weighed_63 hK (k := ?_))
        rw [Int.toNat_natCast]
        exact g
  refine B_X11_weighed_0 hK hs (b5 := by omega) (r5 := by rw [Int.toNat_natCast]; exact s9) (k := ?_)
  have := lp (vOn I m + 1).toNat 0 (by omega) (by unfold mnF; dsimp only; omega)
  unfold mnF at this
  dsimp only at this
  rw [show (if what = 0 then (0 : Int) else 0) = 0 by split <;> rfl] at this
  exact this
