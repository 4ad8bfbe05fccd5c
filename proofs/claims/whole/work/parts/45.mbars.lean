/-! what bars a question of the reference -/
def mOK (I : Nat → Nat → Int) : Prop := (I 44 0 = 0 ∨ (2 ≤ I 44 0 ∧ I 44 0 ≤ 8)) ∧ (0 ≤ I 44 3 ∧ I 44 3 ≤ 100) ∧ (0 ≤ I 44 4 ∧ I 44 4 ≤ 9) ∧ (0 ≤ I 44 5 ∧ I 44 5 ≤ 10) ∧ (0 ≤ I 44 6 ∧ I 44 6 ≤ 999) ∧ (∀ p, p < 8 → 0 ≤ I 45 p ∧ I 45 p ≤ 1009) ∧ (∀ p, p < 8 → I 46 p = 0 ∨ I 46 p = 1) ∧ (0 ≤ I 44 8 ∧ I 44 8 ≤ 4) ∧ (∀ m : Nat, (m : Int) < I 44 8 → (1 ≤ I 47 m ∧ I 47 m ≤ 10) ∧ (0 ≤ I 50 m ∧ I 50 m ≤ 2) ∧ (∀ d : Nat, (d : Int) < I 47 m → (-1 ≤ I 48 (10 * m + d) ∧ I 48 (10 * m + d) ≤ 2) ∧ 0 ≤ I 49 (10 * m + d) ∧ I 49 (10 * m + d) ≤ 99) ∧ (∀ c : Nat, (c : Int) < I 50 m → 1 ≤ I 51 (2 * m + c) ∧ I 51 (2 * m + c) ≤ 9)) ∧ (0 ≤ I 44 14 ∧ I 44 14 ≤ 8) ∧ (∀ p : Nat, (p : Int) < I 44 14 → (0 ≤ I 53 p ∧ I 53 p ≤ 3) ∧ pOK (I 52 p) (I 53 p) (I 54 p) (fun x => I 55 (18 * p + x)))
def vF (I : Nat → Nat → Int) (p : Nat) : Int := if (p : Int) < I 44 0 then I 45 p else 0
def vW (I : Nat → Nat → Int) (p : Nat) : Int := if (p : Int) < I 44 0 then I 46 p else 0
def vS (I : Nat → Nat → Int) (m d : Nat) : Int := if (d : Int) < I 47 m then I 48 (10 * m + d) else 0
def vM (I : Nat → Nat → Int) (m d : Nat) : Int := if (d : Int) < I 47 m then I 49 (10 * m + d) else 0
/-- all chances come out on -/
def vOn (I : Nat → Nat → Int) (m : Nat) : Int := fShl 1 (I 50 m) - 1
noncomputable def pRaw (I : Nat → Nat → Int) (m p : Nat) (more : Int) : List stT := rawL (I 44 0) (vF I) (vW I) (I 44 3) (I 44 4) (I 44 5) (I 47 m) (vM I m) (vS I m) (vOn I m) (I 52 p) (I 53 p + more) (I 54 p) (fun x => I 55 (18 * p + x))
/-- a march is loaded -/
def mLd (I J : Nat → Nat → Int) (m : Nat) : Prop := J 44 38 = I 47 m ∧ J 44 39 = I 50 m ∧ ∀ d : Nat, (d : Int) < I 47 m → J 65 d = vS I m d ∧ J 66 d = vM I m d
theorem mOK.go {I J : Nat → Nat → Int} (h : mOK I) {m : Nat} {hl : List Nat} {fl : List (Nat × Nat)} (F : Fr hl fl I J) (hm : (m : Int) < I 44 8) (h0 : I 44 0 ≠ 0) (hld : mLd I J m) (q1 : ∀ x ∈ [44, 45, 46], x ∉ hl) (q2 : ∀ x ∈ fl, x ∉ [(44, 0), (44, 3), (44, 4), (44, 5)] ∧ x.1 ≠ 45 ∧ x.1 ≠ 46) : mGo J (I 44 0).toNat (I 47 m).toNat := by
  obtain ⟨h1, h2, h3, h4, h5, h6, h7, h8, h9, h10, h11⟩ := h
  have hm' := h9 m hm
  have e : ∀ k, (44, k) ∈ [(44, 0), (44, 3), (44, 4), (44, 5)] → J 44 k = I 44 k := fun k hk => F 44 k (q1 44 (by decide)) (fun z => (q2 _ z).1 hk)
  have e45 := fn_eq F 45 (q1 45 (by decide)) (fun x hx => (q2 x hx).2.1)
  have e46 := fn_eq F 46 (q1 46 (by decide)) (fun x hx => (q2 x hx).2.2)
  unfold mGo
  rw [e 0 (by decide), e 3 (by decide), e 4 (by decide), e 5 (by decide), e45, e46, hld.1]
  refine ⟨by omega, by omega, by omega, by omega, by omega, by omega, by omega, by omega, fun p hp => ?_, fun d hd => ?_, fun d hd => ?_, fun p hp => ?_⟩
  · have := h6 p (by omega)
    omega
  · have a := (hld.2.2 d (by omega)).1
    have b := (hm'.2.2.1 d (by omega)).1
    unfold vS at a
    rw [if_pos (by omega)] at a
    omega
  · have a := (hld.2.2 d (by omega)).2
    have b := (hm'.2.2.1 d (by omega)).2
    unfold vM at a
    rw [if_pos (by omega)] at a
    omega
  · have := h7 p hp
    omega
def barV (I : Nat → Nat → Int) (plan march way a : Int) : Int := if ¬ ((0 ≤ plan ∧ plan < I 44 14) ∧ 0 ≤ march ∧ march < I 44 8) then -101 else if I 44 0 = 0 then -103 else if (way ≠ -1 ∧ ¬ (0 ≤ way ∧ way ≤ vOn I march.toNat)) ∨ a = 0 then -102 else 0
theorem vOn_bd {I : Nat → Nat → Int} {m : Nat} (h : 0 ≤ I 50 m ∧ I 50 m ≤ 2) : 0 ≤ vOn I m ∧ vOn I m ≤ 3 := by
  unfold vOn
  have : I 50 m = 0 ∨ I 50 m = 1 ∨ I 50 m = 2 := by omega
  rcases this with e | e | e <;> rw [e] <;> decide
set_option maxHeartbeats 1000000 in
theorem s_bars {sh : oS} {I : Nat → Nat → Int} {L : Nat → Nat → Int64} {Q : oQ} (hs : Sh sh) {plan march way a : Int} (h : mOK I) (hp : inR plan) (hm : inR march) (hw : inR way) (ha : inR a)
    (k : ∀ r J, Fr [65, 66, 67, 68, 69, 70, 71, 72, 73, 74, 75, 76] [(44, 38), (44, 39), (44, 43), (44, 47), (44, 54), (44, 55), (44, 56), (44, 57), (44, 58)] I J → r = barV I plan march way a → (r = 0 → ∃ (p m : Nat) (l : List stT), plan = (p : Int) ∧ march = (m : Int) ∧ (p : Int) < I 44 14 ∧ (m : Int) < I 44 8 ∧ I 44 0 ≠ 0 ∧ mLd I J m ∧ mLs J l ∧ (pRaw I m p 0).Perm l ∧ l.Pairwise nAh) → Q (some (vI r)) (sh, J, L)) : T_X12_bars [vR 44, vI plan, vI march, vI way, vI a] (sh, I, L) Q := by
  refine And.intro (Nat.le_of_ble_eq_true rfl) (fun K hK => ?_)
  obtain ⟨h1, h2, h3, h4, h5, h6, h7, h8, h9, h10, h11⟩ := id h
  have unk : ¬ ((0 ≤ plan ∧ plan < I 44 14) ∧ 0 ≤ march ∧ march < I 44 8) → K 16 [none, none, none, none, none] [] (sh, I, L) (0, 0) := fun z =>
    B_X12_bars_16 hK (k := k _ I Fr.rf (by unfold barV; rw [if_pos z]) (fun y => absurd y (by decide)))
  refine B_X12_bars_0 hK hs (k := ?_)
  refine s_isPlan hs hp (by omega) (fun r hr => ?_)
  refine B_X12_bars_5 hK (n5 := by rw [hr]; split <;> decide) (kt := fun z => unk (fun y => ?_)) (kf := fun z => ?_)
  · rw [hr, if_pos y.1] at z
    exact absurd z (by decide)
  have gp : 0 ≤ plan ∧ plan < I 44 14 := by
    by_cases y : 0 ≤ plan ∧ plan < I 44 14
    · exact y
    · rw [hr, if_neg y] at z
      exact absurd rfl z
  refine B_X12_bars_8 hK hs (k := ?_)
  refine s_isMarch hs hm (by omega) (fun r2 hr2 => ?_)
  refine B_X12_bars_13 hK (n13 := by rw [hr2]; split <;> decide) (kt := fun z2 => ?_) (kf := fun z2 => unk (fun y => ?_))
  rotate_left
  · rw [hr2, if_pos y.2] at z2
    exact absurd z2 (by decide)
  have gm : 0 ≤ march ∧ march < I 44 8 := by
    by_cases y : 0 ≤ march ∧ march < I 44 8
    · exact y
    · rw [hr2, if_neg y] at z2
      exact absurd rfl z2
  refine B_X12_bars_19 hK hs (n23 := by omega) (kt := fun z3 => ?_) (kf := fun z3 => ?_)
  rotate_left
  · refine B_X12_bars_26 hK (k := k _ I Fr.rf ?_ (fun y => absurd y (by decide)))
    unfold barV
    rw [if_neg (fun y => y ⟨gp, gm⟩), if_pos (Classical.not_not.1 z3)]
  obtain ⟨p, rfl⟩ := Int.eq_ofNat_of_zero_le gp.1
  obtain ⟨m, rfl⟩ := Int.eq_ofNat_of_zero_le gm.1
  have hm' := h9 m gm.2
  have hp' := h11 p gp.2
  have on := vOn_bd hm'.2.1
  have bv : barV I (p : Int) (m : Int) way a = if (way ≠ -1 ∧ ¬ (0 ≤ way ∧ way ≤ vOn I m)) ∨ a = 0 then -102 else 0 := by
    unfold barV
    rw [if_neg (fun y => y ⟨gp, gm⟩), if_neg z3, Int.toNat_natCast]
  refine B_X12_bars_29 hK hs (k := ?_)
  refine s_load hs (by omega) (by omega) (fun J1 F1 d1 d2 d3 => ?_)
  have F1' : Fr [65, 66, 67, 68, 69, 70, 71, 72, 73, 74, 75, 76] [(44, 38), (44, 39), (44, 43), (44, 47), (44, 54), (44, 55), (44, 56), (44, 57), (44, 58)] I J1 := F1.mono (by decide) (by decide)
  have ld : mLd I J1 m := ⟨d1, d2, fun d hd => by
    unfold vS vM
    rw [if_pos hd, if_pos hd]
    exact d3 d hd⟩
  have go := h.go F1 gm.2 z3 ld (by decide) (by decide)
  have out : (way ≠ -1 ∧ ¬ (0 ≤ way ∧ way ≤ vOn I m)) ∨ a = 0 → K 56 [none, none, none, none, none] [] (sh, J1, L) (0, 0) := fun y =>
    B_X12_bars_56 hK (k := k _ J1 F1' (by rw [bv, if_pos y]) (fun y => absurd y (by decide)))
  have tl : ¬ (way ≠ -1 ∧ ¬ (0 ≤ way ∧ way ≤ vOn I m)) → K 51 [some (vR 44), some (vI p), none, none, some (vI a)] [] (sh, J1, L) (0, 0) := fun y => by
    refine B_X12_bars_51 hK (n53 := ha) (kt := fun y2 => ?_) (kf := fun y2 => out (Or.inr (Classical.not_not.1 y2)))
    refine B_X12_bars_59 hK hs (k := ?_)
    have e : ∀ k, k ≠ 38 → k ≠ 39 → J1 44 k = I 44 k := fun k q1 q2 => F1 44 k (by decide) (by simp [q1, q2])
    have e45 : J1 45 = I 45 := fn_eq F1 45 (by decide) (by decide)
    have e46 : J1 46 = I 46 := fn_eq F1 46 (by decide) (by decide)
    have e52 : J1 52 = I 52 := fn_eq F1 52 (by decide) (by decide)
    have e53 : J1 53 = I 53 := fn_eq F1 53 (by decide) (by decide)
    have e54 : J1 54 = I 54 := fn_eq F1 54 (by decide) (by decide)
    have e55 : J1 55 = I 55 := fn_eq F1 55 (by decide) (by decide)
    refine s_layStands hs go (by omega) (p := p) (by omega) (by rw [e52, e53, e54, e55, Int.add_zero]; exact hp'.2) (fun J2 l F2 m2 p2 w2 => ?_)
    refine B_X12_bars_65 hK (k := k 0 J2 ((F1.tr F2 (by decide) (by decide) (by decide) (by decide))) ?_ (fun _ => ?_))
    · rw [bv, if_neg (fun x => x.elim y y2)]
    · refine ⟨p, m, l, rfl, rfl, gp.2, gm.2, z3, ⟨?_, ?_, fun d hd => ?_⟩, m2, ?_, w2⟩
      · rw [F2 44 38 (by decide) (by decide)]; exact d1
      · rw [F2 44 39 (by decide) (by decide)]; exact d2
      · rw [F2 65 d (by decide) (by simp), F2 66 d (by decide) (by simp)]
        exact ld.2.2 d hd
      · rw [e 0 (by decide) (by decide), e 3 (by decide) (by decide), e 4 (by decide) (by decide), e 5 (by decide) (by decide), e45, e46, e52, e53, e54, e55, d1, d2] at p2
        have q : pRaw I m p 0 = rawL (I 44 0) (I 45) (I 46) (I 44 3) (I 44 4) (I 44 5) (I 47 m) (J1 66) (J1 65) (fShl 1 (I 50 m) - 1) (I 52 p) (I 53 p + 0) (I 54 p) (fun x => I 55 (18 * p + x)) := by
          unfold pRaw
          have nn : (I 47 m) = ((I 47 m).toNat : Int) := by omega
          rw [nn]
          obtain ⟨⟨o1, o1'⟩, o2, o3, o4, o5⟩ := hp'.2
          exact rawL_cg (D := (I 47 m).toNat) (by omega) (by omega) (fun y0 y3 y4 => by have := o4 (by omega); omega) (fun x hx => by unfold vF; rw [if_pos hx]) (fun x hx => by unfold vW; rw [if_pos hx]) (fun d hd => (ld.2.2 d (by omega)).2.symm) (fun d hd => (ld.2.2 d (by omega)).1.symm) (fun _ _ => rfl)
        rw [q]
        exact p2
  refine B_X12_bars_34 hK (n36a := hw) (kt := fun y => tl (fun x => x.1 y)) (kf := fun y => ?_)
  refine B_X12_bars_39 hK hs (k := ?_)
  refine s_allOn hs ?_
  refine B_X12_bars_45 hK (k := ?_)
  have eo : fShl 1 (J1 44 39) - 1 = vOn I m := by rw [d2]; rfl
  rw [eo]
  refine s_within hw (by decide) (by omega) (fun r3 hr3 => ?_)
  refine B_X12_bars_48 hK (n48 := by rw [hr3]; split <;> decide) (kt := fun x => out (Or.inl ⟨y, fun u => ?_⟩)) (kf := fun x => tl (fun u => ?_))
  · rw [hr3, if_pos u] at x
    exact absurd x (by decide)
  · rw [hr3, if_neg u.2] at x
    exact absurd rfl x
