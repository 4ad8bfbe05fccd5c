/-! a run by a seed -/
def rnN (w : Int64) : Int64 := gAnd (gAdd (gMul 1103515245 w) 12345) 2147483647
def rnC (w : Int64) (t : Int) : Int := (lg_cmp (gRem (gDiv w 65536) 10) ((Int32.ofInt t).toInt64)).toInt
def rnF (T : Nat → Int) (s : Int) : Nat → Int64 × Int
  | 0 => ((Int32.ofInt s).toInt64, 0)
  | c + 1 => (rnN (rnF T s c).1, fOr (rnF T s c).2 (if 0 ≤ rnC (rnN (rnF T s c).1) (T c) then 0 else fShl 1 (c : Int)))
def runA (seed what : Int) : Int := if 0 ≤ seed ∧ 0 ≤ what ∧ what ≤ 2 then 1 else 0
noncomputable def runV (I : Nat → Nat → Int) (plan march seed what : Int) : Int := if barV I plan march (-1) (runA seed what) = 0 then (if what = 1 then (pEv I march.toNat plan.toNat 0 (rnF (fun c => I 51 (2 * march.toNat + c)) seed (I 50 march.toNat).toNat).2 (I 47 march.toNat - 1) 0).1 else if what = 0 then (rnF (fun c => I 51 (2 * march.toNat + c)) seed (I 50 march.toNat).toNat).2 else (Int64.toInt32 (rnF (fun c => I 51 (2 * march.toNat + c)) seed (I 50 march.toNat).toNat).1).toInt) else barV I plan march (-1) (runA seed what)
theorem s_mrun {sh : oS} {I : Nat → Nat → Int} {L : Nat → Nat → Int64} {Q : oQ} (hs : Sh sh) {plan march seed what : Int} (h : mOK I) (hp : inR plan) (hm : inR march) (hsd : inR seed) (hw : inR what)
    (k : ∀ J, Fr [65, 66, 67, 68, 69, 70, 71, 72, 73, 74, 75, 76] [(44, 38), (44, 39), (44, 43), (44, 47), (44, 54), (44, 55), (44, 56), (44, 57), (44, 58)] I J → Q (some (vI (runV I plan march seed what))) (sh, J, L)) : T_X12_run [vR 44, vI plan, vI march, vI seed, vI what] (sh, I, L) Q := by
  refine And.intro (Nat.le_of_ble_eq_true rfl) (fun K hK => ?_)
  unfold runV at k
  have tl : ∀ a, a = runA seed what → K 23 [some (vR 44), none, some (vI march), some (vI seed), some (vI what), none, none, none, none, none] [vI a, vI (-1), vI march, vI plan, vR 44] (sh, I, L) (0, 0) := fun a ha => by
    refine B_X12_run_23 hK hs (k := ?_)
    refine s_barsN hs h hp hm (by rw [ha]; unfold runA; split <;> decide) (fun r J F hr ri hz => ?_)
    rw [← ha, ← hr] at k
    refine B_X12_run_26 hK (n30 := ri) (kt := fun zr => ?_) (kf := fun zr => ?_)
    · obtain ⟨p, m, e1, e2, q⟩ := hz zr
      subst e1 e2
      rw [if_pos zr, Int.toNat_natCast, Int.toNat_natCast] at k
      have hm' := h.2.2.2.2.2.2.2.2.1 m q.2.1.2.1
      have h8 := h.2.2.2.2.2.2.2.1
      have g2 := q.2.1.2.1
      have e39 : J 44 39 = I 50 m := q.2.2.1.2.1
      have e38 : J 44 38 = I 47 m := q.2.2.1.1
      have e51 : J 51 = I 51 := fn_eq F 51 (by decide) (by decide)
      generalize hT : (fun c => I 51 (2 * m + c)) = T at k
      have lp : ∀ (x c : Nat), (c : Int) + x = I 50 m → K 46 [some (vR 44), none, some (vI (m : Int)), none, some (vI what), none, some (vL (rnF T seed c).1), none, some (vI (rnF T seed c).2), some (vI c)] [] (sh, J, L) (0, 0) := by
        intro x
        induction x with
        | zero =>
          intro c hc
          refine B_X12_run_46 hK hs (n52a := by omega) (n52b := by omega) (kt := fun _ => ?_) (kf := fun z => absurd (by omega) z)
          have ec : (I 50 m).toNat = c := by omega
          rw [ec] at k
          refine B_X12_run_116 hK (n119a := hw) (kt := fun y => ?_) (kf := fun y => ?_)
          · rw [if_pos y] at k
            refine B_X12_run_136 hK hs (k := ?_)
            rw [e38]
            refine s_flowQ hs h q (by decide) (by omega) (by decide) (fun J2 q2 v2 r1 r2 => ?_)
            refine B_X12_run_149 hK hs (k := ?_)
            have := k J2 q2.1
            rw [← v2] at this
            exact this
          · rw [if_neg y] at k
            refine B_X12_run_122 hK (n124 := hw) (kt := fun t => ?_) (kf := fun t => ?_)
            · rw [if_neg t] at k
              exact B_X12_run_132 hK (k := B_X12_run_135 hK (k := k J F))
            · rw [if_pos (Classical.not_not.1 t)] at k
              exact B_X12_run_127 hK (k := B_X12_run_135 hK (k := k J F))
        | succ x ih =>
          intro c hc
          refine B_X12_run_46 hK hs (n52a := by omega) (n52b := by omega) (kt := fun z => absurd z (by omega)) (kf := fun _ => ?_)
          have g := ih (c + 1) (by omega)
          unfold rnF at g
          have et : J 51 (2 * (m : Int) + (c : Int)).toNat = T c := by
            rw [e51, ← hT, show (2 * (m : Int) + (c : Int)).toNat = 2 * m + c by omega]
          refine B_X12_run_55 hK hs (b93 := by omega) (n96 := ⟨Int32.le_toInt _, Int.le_of_lt_add_one (Int32.toInt_lt _)⟩) (kt := fun z => ?_) (kf := fun z => ?_)
          · rw [et] at z
            have z' : 0 ≤ rnC (rnN (rnF T seed c).1) (T c) := z
            rw [if_pos z'] at g
            exact B_X12_run_106 hK (k := B_X12_run_107 hK (k := g))
          · rw [et] at z
            have z' : ¬ 0 ≤ rnC (rnN (rnF T seed c).1) (T c) := z
            rw [if_neg z'] at g
            exact B_X12_run_99 hK (k := B_X12_run_107 hK (k := g))
      refine B_X12_run_36 hK (k := ?_)
      exact lp (I 50 m).toNat 0 (by omega)
    · rw [if_neg zr] at k
      exact B_X12_run_33 hK (k := k J F)
  have no : ¬ (0 ≤ seed ∧ 0 ≤ what ∧ what ≤ 2) → K 22 [some (vR 44), none, some (vI march), some (vI seed), some (vI what), none, none, none, none, none] [vI (-1), vI march, vI plan, vR 44] (sh, I, L) (0, 0) := fun y => B_X12_run_22 hK (k := tl 0 (by unfold runA; rw [if_neg y]))
  refine B_X12_run_0 hK (n5 := hsd) (kt := fun y => no (fun t => by omega)) (kf := fun y => ?_)
  refine B_X12_run_8 hK (k := ?_)
  refine s_within hw (by decide) (by decide) (fun r hr => ?_)
  by_cases z : 0 ≤ what ∧ what ≤ 2
  · rw [if_pos z] at hr
    refine B_X12_run_15 hK (n15 := by omega) (kt := fun x => absurd x (by omega)) (kf := fun _ => ?_)
    exact B_X12_run_18 hK (k := tl 1 (by unfold runA; rw [if_pos ⟨by omega, z⟩]))
  · rw [if_neg z] at hr
    exact B_X12_run_15 hK (n15 := by omega) (kt := fun _ => no (fun t => z t.2)) (kf := fun x => absurd hr x)
