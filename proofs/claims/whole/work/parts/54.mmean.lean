/-! means -/
def lkl (T : Nat → Int) (way : Int) : Nat → Int
  | 0 => 1
  | c + 1 => lkl T way c * (if fAnd (fShr way (c : Int)) 1 = 1 then T c else 10 - T c)
theorem lkl_bd {T : Nat → Int} {way : Int} : ∀ c : Nat, c ≤ 2 → (∀ x, x < c → 1 ≤ T x ∧ T x ≤ 9) → 1 ≤ lkl T way c ∧ lkl T way c ≤ 9 ^ c
  | 0, _, _ => by simp [lkl]
  | c + 1, hc, h => by
    have a := lkl_bd (T := T) (way := way) c (by omega) (fun x hx => h x (by omega))
    have b := h c (by omega)
    unfold lkl
    have d : 1 ≤ (if fAnd (fShr way (c : Int)) 1 = 1 then T c else 10 - T c) ∧ (if fAnd (fShr way (c : Int)) 1 = 1 then T c else 10 - T c) ≤ 9 := by split <;> omega
    generalize (if fAnd (fShr way (c : Int)) 1 = 1 then T c else 10 - T c) = f at d
    generalize lkl T way c = g at a
    have m1 : g * 1 ≤ g * f := Int.mul_le_mul_of_nonneg_left d.1 (by omega)
    have m2 : g * f ≤ g * 9 := Int.mul_le_mul_of_nonneg_left d.2 (by omega)
    rw [Int.pow_succ]
    omega
/-- the sums over the ways: hungry, carried, all -/
noncomputable def mnF (E : Nat → Int × Int) (lk : Nat → Int) : Nat → Int × Int × Int
  | 0 => (0, 0, 0)
  | w + 1 => ((mnF E lk w).1 + lk w * (E w).1, (mnF E lk w).2.1 + lk w * (E w).2, (mnF E lk w).2.2 + lk w)
theorem mQ.sum {I J : Nat → Nat → Int} {m p : Nat} {more x y z : Int} (h : mQ I J m p more) : mQ I (u2 (u2 (u2 J 44 56 x) 44 57 y) 44 58 z) m p more := by
  obtain ⟨F, g, ld, l, ml, pl, wl⟩ := h
  exact ⟨((F.u 44 56 _ (by simp)).u 44 57 _ (by simp)).u 44 58 _ (by simp), g, ld, l, ml, pl, wl⟩
theorem s_layMean {sh : oS} {I : Nat → Nat → Int} {L : Nat → Nat → Int64} {Q : oQ} {J : Nat → Nat → Int} (hs : Sh sh) {m p : Nat} (h : mOK I) (q : mQ I J m p 0)
    (k : ∀ J2, mQ I J2 m p 0 → (J2 44 56, J2 44 57, J2 44 58) = mnF (fun w => pEv I m p 0 w (I 47 m - 1) 0) (fun w => lkl (fun c => I 51 (2 * m + c)) w (I 50 m).toNat) (vOn I m + 1).toNat → (0 ≤ J2 44 56 ∧ J2 44 56 ≤ 1000000) ∧ (0 ≤ J2 44 57 ∧ J2 44 57 ≤ 10000000) ∧ (1 ≤ J2 44 58 ∧ J2 44 58 ≤ 1000) → Q none (sh, J2, L)) : T_X12_layMean [vR 44, vI m] (sh, J, L) Q := by
  refine And.intro (Nat.le_of_ble_eq_true rfl) (fun K hK => ?_)
  have hm' := h.2.2.2.2.2.2.2.2.1 m q.2.1.2.1
  have h8 := h.2.2.2.2.2.2.2.1
  have g2 := q.2.1.2.1
  have on := vOn_bd hm'.2.1
  generalize hE : (fun w : Nat => pEv I m p 0 (w : Int) (I 47 m - 1) 0) = E at k
  generalize hT : (fun c => I 51 (2 * m + c)) = T at k
  have tb : ∀ c : Nat, (c : Int) < I 50 m → 1 ≤ T c ∧ T c ≤ 9 := fun c hc => by rw [← hT]; exact hm'.2.2.2 c hc
  have lb : ∀ w : Nat, 1 ≤ lkl T (w : Int) (I 50 m).toNat ∧ lkl T (w : Int) (I 50 m).toNat ≤ 81 := fun w => by
    have a := lkl_bd (T := T) (way := (w : Int)) (I 50 m).toNat (by omega) (fun x hx => tb x (by omega))
    have : (I 50 m).toNat = 0 ∨ (I 50 m).toNat = 1 ∨ (I 50 m).toNat = 2 := by omega
    rcases this with e | e | e <;> rw [e] at a ⊢ <;> simp at a <;> omega
  generalize hlk : (fun w : Nat => lkl T (w : Int) (I 50 m).toNat) = lk at k
  have lp : ∀ (x w : Nat) (J : Nat → Nat → Int), (w : Int) + x = vOn I m + 1 → mQ I J m p 0 → (J 44 56, J 44 57, J 44 58) = mnF E lk w → (0 ≤ J 44 56 ∧ J 44 56 ≤ w * 100000) ∧ (0 ≤ J 44 57 ∧ J 44 57 ≤ w * 2000000) ∧ ((w : Int) ≤ J 44 58 ∧ J 44 58 ≤ w * 100) → K 17 [some (vR 44), some (vI (m : Int)), some (vI w), none, none, none] [] (sh, J, L) (0, 0) := by
    intro x
    induction x with
    | zero =>
      intro w J hw qJ ev bd
      refine B_X12_layMean_17 hK hs (k := ?_)
      refine s_allOn hs ?_
      have eo : fShl 1 (J 44 39) - 1 = vOn I m := by rw [qJ.2.2.1.2.1]; rfl
      rw [eo]
      refine B_X12_layMean_22 hK (n22a := by omega) (n22b := by omega) (kt := fun _ => ?_) (kf := fun z => absurd (by omega) z)
      have ew : (vOn I m + 1).toNat = w := by omega
      rw [ew] at k
      exact B_X12_layMean_139 hK (k := k J qJ ev (by omega))
    | succ x ih =>
      intro w J hw qJ ev bd
      have e38 : J 44 38 = I 47 m := qJ.2.2.1.1
      have e39 : J 44 39 = I 50 m := qJ.2.2.1.2.1
      have e51 : J 51 = I 51 := fn_eq qJ.1 51 (by decide) (by decide)
      refine B_X12_layMean_17 hK hs (k := ?_)
      refine s_allOn hs ?_
      have eo : fShl 1 (J 44 39) - 1 = vOn I m := by rw [e39]; rfl
      rw [eo]
      refine B_X12_layMean_22 hK (n22a := by omega) (n22b := by omega) (kt := fun z => absurd z (by omega)) (kf := fun _ => ?_)
      refine B_X12_layMean_25 hK (k := ?_)
      have inn : ∀ (y c : Nat), (c : Int) + y = I 50 m → K 30 [some (vR 44), some (vI (m : Int)), some (vI w), some (vI (lkl T w c)), some (vI c), none] [] (sh, J, L) (0, 0) := by
        intro y
        induction y with
        | zero =>
          intro c hc
          refine B_X12_layMean_30 hK hs (n36a := by omega) (n36b := by omega) (kt := fun _ => ?_) (kf := fun z => absurd (by omega) z)
          have ec : c = (I 50 m).toNat := by omega
          rw [ec]
          refine B_X12_layMean_81 hK hs (k := ?_)
          rw [e38]
          refine s_flowQ hs h qJ (by decide) (by omega) (by decide) (fun J2 q2 v2 r1 r2 => ?_)
          refine B_X12_layMean_93 hK hs (k := ?_)
          obtain ⟨-, ⟨rb, rc⟩, F2⟩ := r2
          have f56 : J2 44 56 = J 44 56 := F2 44 56 (by decide) (by decide)
          have f57 : J2 44 57 = J 44 57 := F2 44 57 (by decide) (by decide)
          have f58 : J2 44 58 = J 44 58 := F2 44 58 (by decide) (by decide)
          have v3 : (J2 44 54, J2 44 55) = E w := by rw [v2, ← hE]
          have lw := lb w
          have elk : lkl T (w : Int) (I 50 m).toNat = lk w := by rw [← hlk]
          rw [elk] at lw ⊢
          rw [f56, f57, f58]
          have a1 : 0 ≤ lk w * J2 44 54 := Int.mul_nonneg (by omega) rb.1
          have a2 : lk w * J2 44 54 ≤ 81 * 990 := Int.mul_le_mul lw.2 rb.2 rb.1 (by decide)
          have a3 : 0 ≤ lk w * J2 44 55 := Int.mul_nonneg (by omega) rc.1
          have a4 : lk w * J2 44 55 ≤ 81 * 13860 := Int.mul_le_mul lw.2 rc.2 rc.1 (by decide)
          refine ih (w + 1) _ (by omega) q2.sum ?_ ?_
          · unfold mnF
            rw [← ev, ← v3]
            simp [u2]
          · simp [u2]
            omega
        | succ y ihy =>
          intro c hc
          refine B_X12_layMean_30 hK hs (n36a := by omega) (n36b := by omega) (kt := fun z => absurd z (by omega)) (kf := fun _ => ?_)
          have g := ihy (c + 1) (by omega)
          unfold lkl at g
          have et : J 51 (2 * (m : Int) + (c : Int)).toNat = T c := by
            rw [e51, ← hT, show (2 * (m : Int) + (c : Int)).toNat = 2 * m + c by omega]
          refine B_X12_layMean_39 hK hs (b49 := by omega) (n60a := by have := fAnd1 (fShr (w : Int) (c : Int)); omega) (kt := fun z => ?_) (kf := fun z => ?_)
          · rw [if_neg z] at g
            rw [et]
            exact B_X12_layMean_68 hK (k := B_X12_layMean_73 hK (k := g))
          · rw [if_pos (Classical.not_not.1 z)] at g
            rw [et]
            exact B_X12_layMean_63 hK (k := B_X12_layMean_73 hK (k := g))
      exact inn (I 50 m).toNat 0 (by omega)
  refine B_X12_layMean_0 hK hs (k := ?_)
  exact lp (vOn I m + 1).toNat 0 _ (by omega) q.sum (by simp [u2, mnF]) (by simp [u2])
