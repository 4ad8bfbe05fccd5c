/-! the reference: all laid anew; a burnt mill -/
theorem Fr.u2b {hl : List Nat} {fl : List (Nat × Nat)} {I J : Nat → Nat → Int} (F : Fr hl fl I J) (h k : Nat) (v : Int) : Fr hl fl (u2 I h k v) (u2 J h k v) := fun a b h1 h2 => by
  have := F a b h1 h2
  unfold u2
  by_cases e1 : a = h
  · by_cases e2 : b = k
    · rw [if_pos e1, if_pos e2, if_pos e1, if_pos e2]
    · rw [if_pos e1, if_neg e2, if_pos e1, if_neg e2]; exact this
  · rw [if_neg e1, if_neg e1]; exact this
theorem Fr.back {hl : List Nat} {fl : List (Nat × Nat)} {I J : Nat → Nat → Int} {h k : Nat} {v : Int} (F : Fr hl fl (u2 I h k v) J) : Fr hl fl I (u2 J h k (I h k)) := fun a b h1 h2 => by
  have := F a b h1 h2
  unfold u2 at this ⊢
  by_cases e1 : a = h
  · by_cases e2 : b = k
    · rw [if_pos e1, if_pos e2, e1, e2]
    · rw [if_pos e1, if_neg e2] at this ⊢; exact this
  · rw [if_neg e1] at this ⊢; exact this
theorem u2_id {I : Nat → Nat → Int} {h k : Nat} : u2 I h k (I h k) = I := by
  funext a b
  unfold u2
  by_cases e1 : a = h
  · by_cases e2 : b = k
    · rw [if_pos e1, if_pos e2, e1, e2]
    · rw [if_pos e1, if_neg e2]
  · rw [if_neg e1]
theorem mOK.pk {I : Nat → Nat → Int} (h : mOK I) {p : Nat} {more : Int} (hp : (p : Int) < I 44 14) (hmo : 0 ≤ more ∧ more ≤ 1) : pOK (I 52 p) (I 53 p + more) (I 54 p) (fun x => I 55 (18 * p + x)) := by
  obtain ⟨h1, h2, h3, h4, h5, h6, h7, h8, h9, h10, h11⟩ := h
  obtain ⟨q0, o1, o2, o3, o4, o5⟩ := h11 p hp
  exact ⟨o1, by omega, o3, o4, o5⟩
theorem s_layQ {sh : oS} {I : Nat → Nat → Int} {L : Nat → Nat → Int64} {Q : oQ} {J : Nat → Nat → Int} (hs : Sh sh) {m p : Nat} {more : Int} (h : mOK I) (F : FrQ I J) (gp : (p : Int) < I 44 14) (gm : (m : Int) < I 44 8) (z3 : I 44 0 ≠ 0) (ld : mLd I J m) (hmo : 0 ≤ more ∧ more ≤ 1)
    (k : ∀ J2, mQ I J2 m p more → Fr [67, 68, 69, 70, 71, 72, 73, 74, 75, 76] [(44, 43), (44, 47), (44, 54), (44, 55)] J J2 → Q none (sh, J2, L)) : T_X12_layStands [vR 44, vI p, vI more] (sh, J, L) Q := by
  obtain ⟨h1, h2, h3, h4, h5, h6, h7, h8, h9, h10, h11⟩ := id h
  have hm' := h9 m gm
  have go := h.go F gm z3 ld (by decide) (by decide)
  have hpk := h.pk (more := more) gp hmo
  have e0 : J 44 0 = I 44 0 := F 44 0 (by decide) (by decide)
  have e3 : J 44 3 = I 44 3 := F 44 3 (by decide) (by decide)
  have e4 : J 44 4 = I 44 4 := F 44 4 (by decide) (by decide)
  have e5 : J 44 5 = I 44 5 := F 44 5 (by decide) (by decide)
  have e45 : J 45 = I 45 := fn_eq F 45 (by decide) (by decide)
  have e46 : J 46 = I 46 := fn_eq F 46 (by decide) (by decide)
  have e52 : J 52 = I 52 := fn_eq F 52 (by decide) (by decide)
  have e53 : J 53 = I 53 := fn_eq F 53 (by decide) (by decide)
  have e54 : J 54 = I 54 := fn_eq F 54 (by decide) (by decide)
  have e55 : J 55 = I 55 := fn_eq F 55 (by decide) (by decide)
  refine s_layStands hs go (by omega) (p := p) (by omega) (by rw [e52, e53, e54, e55]; exact hpk) (fun J2 l F2 m2 p2 w2 => ?_)
  refine k J2 ⟨F.tr F2 (by decide) (by decide) (by decide) (by decide), ⟨gp, gm, z3⟩, ⟨?_, ?_, fun d hd => ?_⟩, l, m2, ?_, w2⟩ F2
  · rw [F2 44 38 (by decide) (by decide)]; exact ld.1
  · rw [F2 44 39 (by decide) (by decide)]; exact ld.2.1
  · rw [F2 65 d (by decide) (by simp), F2 66 d (by decide) (by simp)]
    exact ld.2.2 d hd
  · rw [e0, e3, e4, e5, e45, e46, e52, e53, e54, e55, ld.1, ld.2.1] at p2
    have q : pRaw I m p more = rawL (I 44 0) (I 45) (I 46) (I 44 3) (I 44 4) (I 44 5) (I 47 m) (J 66) (J 65) (fShl 1 (I 50 m) - 1) (I 52 p) (I 53 p + more) (I 54 p) (fun x => I 55 (18 * p + x)) := by
      unfold pRaw
      have nn : (I 47 m) = ((I 47 m).toNat : Int) := by omega
      rw [nn]
      obtain ⟨⟨o1, o1'⟩, o2, o3, o4, o5⟩ := hpk
      exact rawL_cg (D := (I 47 m).toNat) (by omega) (by omega) (fun y0 y3 y4 => by have := o4 (by omega); omega) (fun x hx => by unfold vF; rw [if_pos hx]) (fun x hx => by unfold vW; rw [if_pos hx]) (fun d hd => (ld.2.2 d (by omega)).2.symm) (fun d hd => (ld.2.2 d (by omega)).1.symm) (fun _ _ => rfl)
    rw [q]
    exact p2
noncomputable def anV (I : Nat → Nat → Int) (m p : Nat) (more : Int) : Int := (pEv I m p more (vOn I m) (I 47 m - 1) 0).1
theorem s_anew {sh : oS} {I : Nat → Nat → Int} {L : Nat → Nat → Int64} {Q : oQ} {J : Nat → Nat → Int} (hs : Sh sh) {m p : Nat} {more : Int} (h : mOK I) (F : FrQ I J) (gp : (p : Int) < I 44 14) (gm : (m : Int) < I 44 8) (z3 : I 44 0 ≠ 0) (ld : mLd I J m) (hmo : 0 ≤ more ∧ more ≤ 1)
    (k : ∀ J2, mQ I J2 m p more → 0 ≤ anV I m p more ∧ anV I m p more ≤ 990 → Q (some (vI (anV I m p more))) (sh, J2, L)) : T_X12_hungryAnew [vR 44, vI p, vI more] (sh, J, L) Q := by
  refine And.intro (Nat.le_of_ble_eq_true rfl) (fun K hK => ?_)
  have hm' := h.2.2.2.2.2.2.2.2.1 m gm
  refine B_X12_hungryAnew_0 hK hs (k := ?_)
  refine s_layQ hs h F gp gm z3 ld hmo (fun J1 q1 F1 => ?_)
  refine B_X12_hungryAnew_6 hK hs (k := ?_)
  refine s_allOn hs ?_
  have eo : fShl 1 (J1 44 39) - 1 = vOn I m := by rw [q1.2.2.1.2.1]; rfl
  rw [eo]
  refine B_X12_hungryAnew_11 hK hs (k := ?_)
  rw [q1.2.2.1.1]
  refine s_flowQ hs h q1 hmo (by omega) (by decide) (fun J2 q2 v2 r1 r2 => ?_)
  have v3 : J2 44 54 = anV I m p more := congrArg Prod.fst v2
  have bd := r2.2.1.1
  rw [v3] at bd
  refine B_X12_hungryAnew_21 hK hs (k := ?_)
  rw [v3]
  exact k J2 q2 bd
