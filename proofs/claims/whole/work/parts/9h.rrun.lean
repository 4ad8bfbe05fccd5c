/-! the class answers: run -/
theorem bm64 {x : Int} (h : -1000000000000 ≤ x ∧ x ≤ 1000000000000) : x.bmod (2 ^ 64) = x := Int.bmod_eq_of_le (by omega) (by omega)
theorem rnN_bd (w : Int64) : 0 ≤ (rnN w).toInt ∧ (rnN w).toInt ≤ 2147483647 := by
  unfold rnN gAnd
  generalize gAdd (gMul 1103515245 w) 12345 = x
  have e : (x.toBitVec &&& 2147483647#64).toNat = x.toBitVec.toNat % 2 ^ 31 := by
    rw [BitVec.toNat_and]
    exact Nat.and_two_pow_sub_one_eq_mod _ 31
  show 0 ≤ (x.toBitVec &&& 2147483647#64).toInt ∧ (x.toBitVec &&& 2147483647#64).toInt ≤ 2147483647
  rw [BitVec.toInt_eq_toNat_of_lt (by rw [e]; omega), e]
  omega
theorem rn_i {v : Int64} (h : 0 ≤ v.toInt ∧ v.toInt ≤ 2147483647) : (Int64.toInt32 v).toInt = v.toInt ∧ (Int32.ofInt ((Int64.toInt32 v).toInt)).toInt64 = v := by
  have a : (Int64.toInt32 v).toInt = v.toInt := by
    rw [Int64.toInt_toInt32]
    exact Int.bmod_eq_of_le (by omega) (by omega)
  refine ⟨a, ?_⟩
  rw [Int32.ofInt_toInt]
  apply Int64.toInt_inj.1
  rw [Int32.toInt_toInt64, a]
theorem g_div {v w : Int64} (h : 0 ≤ v.toInt ∧ v.toInt ≤ 2147483647) (hw : 1 ≤ w.toInt) : (gDiv v w).toInt = v.toInt / w.toInt ∧ 0 ≤ v.toInt / w.toInt ∧ v.toInt / w.toInt ≤ 2147483647 := by
  have b1 : 0 ≤ v.toInt / w.toInt := Int.ediv_nonneg h.1 (by omega)
  have b2 : v.toInt / w.toInt ≤ v.toInt := Int.ediv_le_self _ h.1
  refine ⟨?_, b1, by omega⟩
  show (v / w).toInt = _
  rw [Int64.toInt_div, Int.tdiv_eq_ediv_of_nonneg h.1]
  exact bm64 (by omega)
theorem g_rem {v w : Int64} (h : 0 ≤ v.toInt ∧ v.toInt ≤ 2147483647) (hw : 1 ≤ w.toInt ∧ w.toInt ≤ 100) : (gRem v w).toInt = v.toInt % w.toInt := by
  obtain ⟨d1, d2, d3⟩ := g_div h hw.1
  have d1 : (v / w).toInt = v.toInt / w.toInt := d1
  show (v - v / w * w).toInt = _
  have m1 := Int.emod_add_mul_ediv v.toInt w.toInt
  have m2 := Int.emod_nonneg v.toInt (show w.toInt ≠ 0 by omega)
  have m3 := Int.emod_lt_of_pos v.toInt (show 0 < w.toInt by omega)
  have e : v.toInt / w.toInt * w.toInt = v.toInt - v.toInt % w.toInt := by
    rw [Int.mul_comm]
    omega
  have b1 : (v.toInt - v.toInt % w.toInt).bmod (2 ^ 64) = v.toInt - v.toInt % w.toInt := bm64 (by omega)
  rw [Int64.toInt_sub, Int64.toInt_mul, d1, e, b1, bm64 (by omega)]
  omega
theorem rnC_is {v : Int64} {t : Int} (h : 0 ≤ v.toInt ∧ v.toInt ≤ 2147483647) (ht : inR t) : 0 ≤ rnC v t ↔ t ≤ v.toInt / 65536 % 10 := by
  unfold rnC
  obtain ⟨d1, d2, d3⟩ := g_div (v := v) (w := 65536) h (by decide)
  have r := g_rem (v := gDiv v 65536) (w := 10) (by omega) (by decide)
  rw [d1] at r
  have e1 : (65536 : Int64).toInt = 65536 := rfl
  have e2 : (10 : Int64).toInt = 10 := rfl
  rw [e1, e2] at r
  have et : ((Int32.ofInt t).toInt64).toInt = t := by
    rw [Int32.toInt_toInt64]
    exact Int32.toInt_ofInt_of_le (by omega) (by omega)
  generalize gRem (gDiv v 65536) 10 = x at r
  generalize (Int32.ofInt t).toInt64 = y at et
  rw [← r, ← et]
  unfold lg_cmp
  by_cases z : x > y
  · rw [if_pos z]
    have := Int64.lt_iff_toInt_lt.1 z
    exact ⟨fun _ => by omega, fun _ => by decide⟩
  · rw [if_neg z]
    have z2 : ¬ y.toInt < x.toInt := fun u => z (Int64.lt_iff_toInt_lt.2 u)
    by_cases q : x = y
    · rw [if_pos q, q]
      exact ⟨fun _ => by omega, fun _ => by decide⟩
    · rw [if_neg q]
      have q2 : x.toInt ≠ y.toInt := fun u => q (Int64.toInt_inj.1 u)
      exact ⟨fun u => absurd u (by decide), fun u => by omega⟩
theorem fShl_le (c : Nat) (hc : c ≤ 2) : fShl 1 (c : Int) ≤ 4 := by
  have : c = 0 ∨ c = 1 ∨ c = 2 := by omega
  rcases this with e | e | e <;> subst e <;> decide
theorem rnF_way {T : Nat → Int} {s : Int} {c : Nat} (hc : c ≤ 2) : 0 ≤ (rnF T s c).2 ∧ (rnF T s c).2 ≤ fShl 1 (c : Int) - 1 := by
  have : c = 0 ∨ c = 1 ∨ c = 2 := by omega
  rcases this with e | e | e
  · subst e
    show (0 : Int) ≤ 0 ∧ (0 : Int) ≤ fShl 1 0 - 1
    exact ⟨by decide, by decide⟩
  · subst e
    show 0 ≤ fOr 0 (if 0 ≤ rnC (rnN (rnF T s 0).1) (T 0) then 0 else fShl 1 0) ∧ fOr 0 (if 0 ≤ rnC (rnN (rnF T s 0).1) (T 0) then 0 else fShl 1 0) ≤ fShl 1 1 - 1
    split <;> exact ⟨by decide, by decide⟩
  · subst e
    show 0 ≤ fOr (fOr 0 (if 0 ≤ rnC (rnN (rnF T s 0).1) (T 0) then 0 else fShl 1 0)) (if 0 ≤ rnC (rnN (rnF T s 1).1) (T 1) then 0 else fShl 1 1) ∧ fOr (fOr 0 (if 0 ≤ rnC (rnN (rnF T s 0).1) (T 0) then 0 else fShl 1 0)) (if 0 ≤ rnC (rnN (rnF T s 1).1) (T 1) then 0 else fShl 1 1) ≤ fShl 1 2 - 1
    split <;> split <;> exact ⟨by decide, by decide⟩
theorem rnF_in {T : Nat → Int} {s : Int} (hs : 0 ≤ s ∧ s ≤ 2147483647) : ∀ c : Nat, 0 ≤ (rnF T s c).1.toInt ∧ (rnF T s c).1.toInt ≤ 2147483647
  | 0 => by
    show 0 ≤ ((Int32.ofInt s).toInt64).toInt ∧ ((Int32.ofInt s).toInt64).toInt ≤ 2147483647
    rw [Int32.toInt_toInt64, Int32.toInt_ofInt_of_le (by omega) (by omega)]
    exact hs
  | c + 1 => rnN_bd _
set_option maxHeartbeats 1000000 in
theorem c_run {sh : oS} {I : Nat → Nat → Int} {L : Nat → Nat → Int64} {Q : oQ} (hs : Sh sh) {b : Nat} {a plan march seed what : Int} (R : Rel sh I b a) (hp : inR plan) (hm : inR march) (hsd : inR seed) (hw : inR what) (k : ∀ J, Rel sh J b a → rfE I J → Q (some (vI (runV I plan march seed what))) (sh, J, L)) : T_X11_run [vR 0, vI plan, vI march, vI seed, vI what] (sh, I, L) Q := by
  refine And.intro (Nat.le_of_ble_eq_true rfl) (fun K hK => ?_)
  obtain ⟨hn, ht, R⟩ := R
  unfold runV at k
  rw [ask_if] at k
  unfold runA at k
  rw [one_if] at k
  refine B_X11_run_0 hK hs (k := ?_)
  refine s_refusal hs R hp hm (fun r hr hz => ?_)
  have rb := bar1 (I := I) (plan := plan) (march := march)
  rw [← hr] at rb k
  refine B_X11_run_6 hK (n10 := by omega) (kt := fun z => ?_) (kf := fun z => ?_)
  rotate_left
  · rw [if_neg z] at k
    exact B_X11_run_13 hK (k := k I ⟨hn, ht, R⟩ rfl)
  obtain ⟨p, m, e1, e2, hpl, hml, h0⟩ := hz z
  subst e1 e2
  rw [if_pos z] at k
  have out : ¬ (0 ≤ seed ∧ 0 ≤ what ∧ what ≤ 2) → K 31 [none, none, none, none, none, none, none, none, none, none] [] (sh, I, L) (0, 0) := fun y => by
    rw [if_neg y] at k
    exact B_X11_run_31 hK (k := k I ⟨hn, ht, R⟩ rfl)
  refine B_X11_run_16 hK (n17 := hsd) (kt := fun y => out (by omega)) (kf := fun y => ?_)
  refine B_X11_run_20 hK (n22 := hw) (kt := fun y2 => out (by omega)) (kf := fun y2 => ?_)
  refine B_X11_run_25 hK (n28a := hw) (kt := fun y3 => ?_) (kf := fun y3 => out (by omega))
  rw [if_pos (show 0 ≤ seed ∧ 0 ≤ what ∧ what ≤ 2 by omega), Int.toNat_natCast, Int.toNat_natCast] at k
  have ok := R.1.1
  have o10 := R.1.1.2.2.2.2.2.2.2.2.2.1
  have o8 := R.1.1.2.2.2.2.2.2.2.1
  have om := R.1.1.2.2.2.2.2.2.2.2.1 m hml
  have on := vOn_bd om.2.1
  obtain ⟨h, s9, mr, -⟩ := R.2.2.2.1.2 m hml
  have tm : (m : Int).toNat = m := Int.toNat_natCast m
  have sd : 0 ≤ seed ∧ seed ≤ 2147483647 := by omega
  have h1 : I h 1 = I 50 m := mr.2.2.2.1
  have tt := mr.2.2.2.2.2
  generalize hT : (fun c => I 51 (2 * m + c)) = T at k
  have tT : ∀ c : Nat, (c : Int) < I 50 m → I (h + 3) c = T c ∧ inR (T c) := fun c hc => by
    have := om.2.2.2 c hc
    rw [tt c hc, ← hT]
    exact ⟨rfl, by dsimp only; omega⟩
  have lp : ∀ (x c : Nat), (c : Int) + x = I 50 m → K 51 [some (vR 0), some (vI (p : Int)), some (vI (m : Int)), none, some (vI what), none, some (vR h), some (vI (rnF T seed c).2), some (vI (Int64.toInt32 (rnF T seed c).1).toInt), some (vI (c : Int))] [] (sh, I, L) (0, 0) := by
    intro x
    induction x with
    | zero =>
      intro c hc
      refine B_X11_run_51 hK (Ah6 := mr.1.1) (n58a := by omega) (n58b := by omega) (kt := fun _ => ?_) (kf := fun z => absurd (by omega) z)
      rw [show (I 50 m).toNat = c by omega] at k
      refine B_X11_run_102 hK (n105a := hw) (kt := fun y => ?_) (kf := fun y => ?_)
      · refine B_X11_run_111 hK (n113 := hw) (kt := fun y2 => ?_) (kf := fun y2 => ?_)
        · rw [if_pos (show what = 1 by omega)] at k
          refine B_X11_run_121 hK hs (k := ?_)
          have wb := rnF_way (T := T) (s := seed) (c := c) (by omega)
          have ev : fShl 1 (c : Int) - 1 = vOn I m := by rw [show (c : Int) = I 50 m by omega]; rfl
          rw [ev] at wb
          refine r_solved hs R hpl hml h0 wb (fun J F RJ _ v r => ?_)
          refine B_X11_run_133 hK hs (b133 := by omega) (k := ?_)
          rw [Int.toNat_natCast]
          have kk := k J ⟨hn, ht, RJ⟩ F.rf
          rw [← v] at kk
          exact B_X11_run_134 hK (k := kk)
        · rw [if_neg (show ¬ what = 1 by omega), if_pos (Classical.not_not.1 y2)] at k
          exact B_X11_run_116 hK (k := B_X11_run_134 hK (k := k I ⟨hn, ht, R⟩ rfl))
      · rw [if_neg (show ¬ what = 1 by omega), if_neg (show ¬ what = 0 by omega)] at k
        exact B_X11_run_108 hK (k := k I ⟨hn, ht, R⟩ rfl)
    | succ x ih =>
      intro c hc
      refine B_X11_run_51 hK (Ah6 := mr.1.1) (n58a := by omega) (n58b := by omega) (kt := fun z => absurd z (by omega)) (kf := fun _ => ?_)
      have g := ih (c + 1) (by omega)
      unfold rnF at g
      dsimp only at g
      refine B_X11_run_61 hK (k := ?_)
      refine And.intro (Nat.le_of_ble_eq_true rfl) (fun K2 hK2 => ?_)
      refine B_X11_seedBehind_0 hK2 (k := ?_)
      rw [(rn_i (rnF_in (T := T) sd c)).2]
      have nb := rnN_bd (rnF T seed c).1
      have ni := (rn_i nb).1
      obtain ⟨t1, t2⟩ := tT c (by omega)
      have rc := rnC_is nb t2
      have g0 : K 51 [some (vR 0), some (vI (p : Int)), some (vI (m : Int)), none, some (vI what), none, some (vR h), some (vI (fOr (rnF T seed c).2 (if 0 ≤ rnC (rnN (rnF T seed c).1) (T c) then 0 else fShl 1 (c : Int)))), some (vI (Int64.toInt32 (rnN (rnF T seed c).1)).toInt), some (vI ((c + 1 : Nat) : Int))] [] (sh, I, L) (0, 0) := g
      show K 66 _ [vI (Int64.toInt32 (rnN (rnF T seed c).1)).toInt] _ _
      rw [ni] at g0 ⊢
      have v1 : (rnN (rnF T seed c).1).toInt.tdiv 65536 = (rnN (rnF T seed c).1).toInt / 65536 := Int.tdiv_eq_ediv_of_nonneg nb.1
      have v2 : ((rnN (rnF T seed c).1).toInt / 65536).tmod 10 = (rnN (rnF T seed c).1).toInt / 65536 % 10 := Int.tmod_eq_emod_of_nonneg (by omega)
      have wb := rnF_way (T := T) (s := seed) (c := c) (by omega)
      refine B_X11_run_66 hK (n72a := by omega) (n75a := by rw [v1]; omega) (Ah6 := mr.1.1) (b83 := by omega) (n84a := by rw [v1, v2]; omega) (n84b := by rw [Int.toNat_natCast, t1]; exact t2) (kt := fun z => ?_) (kf := fun z => ?_)
      · rw [v1, v2, Int.toNat_natCast, t1] at z
        rw [if_pos (rc.2 z)] at g0
        have o0 : fOr (rnF T seed c).2 0 = (rnF T seed c).2 := by
          unfold fOr
          rw [show Int32.ofInt 0 = 0 by decide, Int32.or_zero]
          have := fShl_le c (by omega)
          exact Int32.toInt_ofInt_of_le (by omega) (by omega)
        rw [o0] at g0
        exact B_X11_run_96 hK (k := g0)
      · rw [v1, v2, Int.toNat_natCast, t1] at z
        rw [if_neg (fun u => z (rc.1 u))] at g0
        exact B_X11_run_87 hK (k := B_X11_run_96 hK (k := g0))
  refine B_X11_run_34 hK hs (b39 := by omega) (r39 := by rw [tm]; exact s9) (k := ?_)
  have g := lp (I 50 m).toNat 0 (by omega)
  have e0 : (Int64.toInt32 (rnF T seed 0).1).toInt = seed := by
    rw [(rn_i (rnF_in (T := T) sd 0)).1]
    show ((Int32.ofInt seed).toInt64).toInt = seed
    rw [Int32.toInt_toInt64]
    exact Int32.toInt_ofInt_of_le (by omega) (by omega)
  rw [e0] at g
  exact g
