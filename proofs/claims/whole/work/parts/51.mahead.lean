/-! how many days sooner -/
noncomputable def ahF (h : Nat → Int) : Nat → Nat → Int
  | 0, _ => -1
  | q + 1, e => if h e = 0 then (e : Int) else ahF h q (e + 1)
noncomputable def aheV (I : Nat → Nat → Int) (plan march : Int) : Int := if barV I plan march (-1) 1 = 0 then (if I 44 21 = 30 then -103 else ahF (fun e => (pEv I march.toNat plan.toNat 0 (vOn I march.toNat) (I 47 march.toNat - 1) e).1) 10 0) else barV I plan march (-1) 1
def aheA (I : Nat → Nat → Int) (plan march : Int) : Int := if barV I plan march (-1) 1 = 0 ∧ I 44 21 ≠ 30 then I 44 21 + 1 else I 44 21
theorem mQ_ask {I J : Nat → Nat → Int} {m p : Nat} {more x : Int} (h : mQ I J m p more) : mQ (u2 I 44 21 x) (u2 J 44 21 x) m p more := by
  obtain ⟨F, g, ld, l, ml, pl, wl⟩ := h
  refine ⟨fun a b h1 h2 => ?_, g, ld, l, ml, pl, wl⟩
  have := F a b h1 h2
  unfold u2
  by_cases e1 : a = 44
  · by_cases e2 : b = 21
    · rw [if_pos e1, if_pos e2, if_pos e1, if_pos e2]
    · rw [if_pos e1, if_neg e2, if_pos e1, if_neg e2]; exact this
  · rw [if_neg e1, if_neg e1]; exact this
theorem s_mahead {sh : oS} {I : Nat → Nat → Int} {L : Nat → Nat → Int64} {Q : oQ} (hs : Sh sh) {plan march : Int} (h : mOK I) (hq : 0 ≤ I 44 21 ∧ I 44 21 ≤ 30) (hp : inR plan) (hm : inR march)
    (k : ∀ J, Fr [65, 66, 67, 68, 69, 70, 71, 72, 73, 74, 75, 76] [(44, 38), (44, 39), (44, 43), (44, 47), (44, 54), (44, 55), (44, 56), (44, 57), (44, 58)] (u2 I 44 21 (aheA I plan march)) J → Q (some (vI (aheV I plan march))) (sh, J, L)) : T_X12_ahead [vR 44, vI plan, vI march] (sh, I, L) Q := by
  refine And.intro (Nat.le_of_ble_eq_true rfl) (fun K hK => ?_)
  have id21 : u2 I 44 21 (I 44 21) = I := by
    funext a b
    unfold u2
    by_cases e1 : a = 44
    · by_cases e2 : b = 21
      · rw [if_pos e1, if_pos e2, e1, e2]
      · rw [if_pos e1, if_neg e2]
    · rw [if_neg e1]
  refine B_X12_ahead_0 hK hs (k := ?_)
  refine s_barsN hs h hp hm (by decide) (fun r J F hr ri hz => ?_)
  unfold aheV aheA at k
  rw [← hr] at k
  refine B_X12_ahead_8 hK (n10 := ri) (kt := fun zr => ?_) (kf := fun zr => ?_)
  · obtain ⟨p, m, e1, e2, q⟩ := hz zr
    subst e1 e2
    rw [if_pos zr, Int.toNat_natCast, Int.toNat_natCast] at k
    have hm' := h.2.2.2.2.2.2.2.2.1 m q.2.1.2.1
    have e21 : J 44 21 = I 44 21 := F 44 21 (by decide) (by decide)
    refine B_X12_ahead_15 hK hs (n21a := by omega) (kt := fun y => ?_) (kf := fun y => ?_)
    · rw [e21] at y
      rw [if_pos ⟨zr, y⟩, if_neg y] at k
      refine B_X12_ahead_27 hK hs (k := ?_)
      rw [e21]
      have q' := mQ_ask (x := I 44 21 + 1) q
      have h' : mOK (u2 I 44 21 (I 44 21 + 1)) := h
      have lp : ∀ (q e : Nat) (J : Nat → Nat → Int), e + q = 10 → mQ (u2 I 44 21 (I 44 21 + 1)) J m p 0 → (∀ J2, Fr [65, 66, 67, 68, 69, 70, 71, 72, 73, 74, 75, 76] [(44, 38), (44, 39), (44, 43), (44, 47), (44, 54), (44, 55), (44, 56), (44, 57), (44, 58)] (u2 I 44 21 (I 44 21 + 1)) J2 → Q (some (vI (ahF (fun e => (pEv I m p 0 (vOn I m) (I 47 m - 1) e).1) q e))) (sh, J2, L)) → K 40 [some (vR 44), none, none, none, some (vI e)] [] (sh, J, L) (0, 0) := by
        intro q
        induction q with
        | zero =>
          intro e J he qJ kk
          refine B_X12_ahead_40 hK (n44a := by omega) (kt := fun _ => ?_) (kf := fun z => absurd (by omega) z)
          exact B_X12_ahead_79 hK (k := kk J qJ.1)
        | succ q ih =>
          intro e J he qJ kk
          refine B_X12_ahead_40 hK (n44a := by omega) (kt := fun z => absurd z (by omega)) (kf := fun _ => ?_)
          refine B_X12_ahead_47 hK hs (k := ?_)
          refine s_allOn hs ?_
          have eo : fShl 1 (J 44 39) - 1 = vOn I m := by rw [qJ.2.2.1.2.1]; rfl
          rw [eo]
          refine B_X12_ahead_52 hK hs (k := ?_)
          have e38 : J 44 38 = I 47 m := qJ.2.2.1.1
          rw [e38]
          refine s_flowQ hs h' qJ (by decide) (show 0 ≤ I 47 m - 1 ∧ I 47 m - 1 < I 47 m by omega) (by omega) (fun J2 q2 v2 r1 r2 => ?_)
          have v3 : J2 44 54 = (pEv I m p 0 (vOn I m) (I 47 m - 1) e).1 := congrArg Prod.fst v2
          unfold ahF at kk
          refine B_X12_ahead_63 hK hs (n67 := r1) (kt := fun y => ?_) (kf := fun y => ?_)
          · rw [v3] at y
            rw [if_neg y] at kk
            exact B_X12_ahead_73 hK (k := ih (e + 1) J2 (by omega) q2 kk)
          · have y := Classical.not_not.1 y
            rw [v3] at y
            rw [if_pos y] at kk
            exact B_X12_ahead_70 hK (k := kk J2 q2.1)
      exact lp 10 0 _ (by omega) q' k
    · rw [e21] at y
      have y := Classical.not_not.1 y
      rw [if_neg (fun t => t.2 y), if_pos y, id21] at k
      exact B_X12_ahead_24 hK (k := k J F)
  · rw [if_neg zr, if_neg (fun t => zr t.1), id21] at k
    exact B_X12_ahead_13 hK (k := k J F)
