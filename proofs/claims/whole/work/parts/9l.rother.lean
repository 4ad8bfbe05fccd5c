/-! the class: another land, the hungry in it -/
theorem s_become {sh : oS} {I : Nat → Nat → Int} {L : Nat → Nat → Int64} {Q : oQ} {h0 f0 w0 h1 f1 w1 : Nat} (A0 : LandAt sh h0 f0 w0) (A1 : LandAt sh h1 f1 w1) (hc : (h0 = 6 ∧ f0 = 7 ∧ w0 = 8 ∧ h1 = 3 ∧ f1 = 4 ∧ w1 = 5) ∨ (h0 = 3 ∧ f0 = 4 ∧ w0 = 5 ∧ h1 = 6 ∧ f1 = 7 ∧ w1 = 8))
    (k : ∀ J, Fr [f0, w0] [(h0, 0), (h0, 3), (h0, 4), (h0, 5), (h0, 6)] I J → (J h0 0 = I h1 0 ∧ J h0 3 = I h1 3 ∧ J h0 4 = I h1 4 ∧ J h0 5 = I h1 5 ∧ J h0 6 = I h1 6) → (∀ x, x < 8 → J f0 x = I f1 x ∧ J w0 x = I w1 x) → Q none (sh, J, L)) : T_X4_become [vR h0, vR h1] (sh, I, L) Q := by
  refine And.intro (Nat.le_of_ble_eq_true rfl) (fun K hK => ?_)
  refine B_X4_become_0 hK (Ah1 := A1) (Ah0 := A0) (c20 := by decide) (c35 := by decide) (k := ?_)
  refine k _ ?_ ?_ ?_
  · intro a b q1 q2
    simp only [List.mem_cons, Prod.mk.injEq, List.not_mem_nil, or_false, not_or, not_and] at q1 q2
    obtain ⟨q2, q3, q4, q5, q6⟩ := q2
    rw [uF (by omega), uF (by omega), uF (by omega), uF (by omega)]
    unfold oCpy
    rw [if_neg (by omega), if_neg (by omega), uF (by omega)]
  · rcases hc with ⟨rfl, rfl, rfl, rfl, rfl, rfl⟩ | ⟨rfl, rfl, rfl, rfl, rfl, rfl⟩ <;> simp [u2, oCpy]
  · intro x hx
    rcases hc with ⟨rfl, rfl, rfl, rfl, rfl, rfl⟩ | ⟨rfl, rfl, rfl, rfl, rfl, rfl⟩ <;> simp [u2, oCpy, hx]
theorem s_getMore {sh : oS} {I : Nat → Nat → Int} {L : Nat → Nat → Int64} {Q : oQ} (hs : Sh sh) {what : Int} (hw : 0 ≤ what ∧ what ≤ 4) (h4 : 0 ≤ I 6 4 ∧ I 6 4 ≤ 9)
    (k : ∀ J, Fr [] [(6, 3), (6, 5), (7, 0), (6, 4)] I J → J 6 3 = I 6 3 + (if what = 1 then 1 else 0) → J 6 5 = I 6 5 + (if what = 2 then 1 else 0) → J 7 0 = I 7 0 + (if what = 3 then 10 else 0) → J 6 4 = I 6 4 - (if what = 4 ∧ 0 < I 6 4 then 1 else 0) → Q none (sh, J, L)) : T_X4_getMore [vR 6, vI what] (sh, I, L) Q := by
  refine And.intro (Nat.le_of_ble_eq_true rfl) (fun K hK => ?_)
  have c : what = 0 ∨ what = 1 ∨ what = 2 ∨ what = 3 ∨ what = 4 := by omega
  refine B_X4_getMore_0 hK (n1 := by omega) (k := ?_)
  rcases c with e | e | e | e | e
  · rw [swT_out (by simp; omega)]
    subst e
    exact hK.2 [false, false] 89 [some (vR 6), none] [] (sh, I, L) (0, 0) (B_X4_getMore_89 hK (k := k I Fr.rf (by simp) (by simp) (by simp) (by simp)))
  · rw [swT_in 0 32 (by omega) (by rfl)]
    subst e
    exact B_X4_getMore_32 hK (Ah0 := landO hs) (k := B_X4_getMore_89 hK (k := k _ (Fr.rf.u 6 3 _ (by simp)) (by simp [u2]) (by simp [u2]) (by simp [u2]) (by simp [u2])))
  · rw [swT_in 1 45 (by omega) (by rfl)]
    subst e
    exact B_X4_getMore_45 hK (Ah0 := landO hs) (k := B_X4_getMore_89 hK (k := k _ (Fr.rf.u 6 5 _ (by simp)) (by simp [u2]) (by simp [u2]) (by simp [u2]) (by simp [u2])))
  · rw [swT_in 2 58 (by omega) (by rfl)]
    subst e
    exact B_X4_getMore_58 hK (Ah0 := landO hs) (k := B_X4_getMore_89 hK (k := k _ (Fr.rf.u 7 0 _ (by simp)) (by simp [u2]) (by simp [u2]) (by simp [u2]) (by simp [u2])))
  · rw [swT_in 3 72 (by omega) (by rfl)]
    subst e
    refine B_X4_getMore_72 hK (Ah0 := landO hs) (n80b := by omega) (k := B_X4_getMore_89 hK (k := k _ (Fr.rf.u 6 4 _ (by simp)) (by simp [u2]) (by simp [u2]) (by simp [u2]) ?_))
    rw [uA]
    unfold fMax
    split <;> split <;> omega
theorem lMat.eq {J K R : Nat → Nat → Int} {hl hf hw : Nat} (h : lMat J R hl hf hw) (e1 : K hl = J hl) (e2 : K hf = J hf) (e3 : K hw = J hw) : lMat K R hl hf hw := by
  unfold lMat
  rw [e1, e2, e3]
  exact h
theorem mMat.eq {J K R : Nat → Nat → Int} {h m : Nat} (a : mMat J R h m) (e1 : K h = J h) (e2 : K (h + 1) = J (h + 1)) (e3 : K (h + 2) = J (h + 2)) : mMat K R h m := by
  unfold mMat
  rw [e1, e2, e3]
  exact a
theorem mRel.mat2 {sh : oS} {I J : Nat → Nat → Int} {m h : Nat} (a : mRel sh J m h) (e : rfE I J) : mMat J I h m := by
  have := a.mat
  unfold mMat at this ⊢
  rw [e.at (a := 47) (by omega), e.at (a := 50) (by omega)] at this
  refine ⟨this.1, this.2.1, fun d hd => ?_⟩
  rw [← e.at (I := I) (J := J) (a := 49) (by omega), ← e.at (I := I) (J := J) (a := 48) (by omega)]
  exact this.2.2 d hd
theorem pRel.k2 {sh : oS} {I J : Nat → Nat → Int} {p g : Nat} (a : pRel sh J p g) (e : rfE I J) : pK sh J g (I 52 p) (I 53 p) (I 54 p) (fun x => I 55 (18 * p + x)) := by
  unfold pRel at a
  rw [e.at (a := 52) (by omega), e.at (a := 53) (by omega), e.at (a := 54) (by omega)] at a
  exact pK.eq a (fun x _ => (e.at (by omega)).symm) (fun _ _ _ _ => rfl)
theorem pK.kb {sh : oS} {I : Nat → Nat → Int} {g : Nat} {kind k n : Int} {T : Nat → Int} (a : pK sh I g kind k n T) : sK sh g ∈ [0, 1, 3, 5, 10] := by
  rcases a.2.2.2 with c | c | c | c | c <;> rw [c.1] <;> decide
set_option maxHeartbeats 1000000 in
theorem r_hungryIn {sh : oS} {J R : Nat → Nat → Int} {L : Nat → Nat → Int64} {Q : oQ} (hs : Sh sh) {hl hf hw h m p g : Nat} {more many : Int} (A : LA sh hl hf hw) (M : MA sh h) (ok : mOK R) (lm : lMat J R hl hf hw) (mm : mMat J R h m) (pk : pK sh J g (R 52 p) (R 53 p) (R 54 p) (fun x => R 55 (18 * p + x))) (s9 : sR sh 9 m = some h) (s10 : sR sh 10 p = some g) (h0 : R 44 0 ≠ 0) (hm : (m : Int) < R 44 8) (hp : (p : Int) < R 44 14) (hmo : more = 0 ∨ (more = 1 ∧ R 52 p ≤ 2 ∧ R 53 p < 3)) (hmy : many = R 53 p + more)
    (k : ∀ J2, FrK J J2 → (0 ≤ anV R m p more ∧ anV R m p more ≤ 990) → Q (some (vI (anV R m p more))) (sh, J2, L)) : T_X11_hungryIn [vR 0, vR hl, vI (p : Int), vI (m : Int), vI many] (sh, J, L) Q := by
  refine And.intro (Nat.le_of_ble_eq_true rfl) (fun K hK => ?_)
  have o8 := ok.2.2.2.2.2.2.2.1
  have o10 := ok.2.2.2.2.2.2.2.2.2.1
  have q53 := (ok.2.2.2.2.2.2.2.2.2.2 p hp).1
  have om := ok.2.2.2.2.2.2.2.2.1 m hm
  have tp : (p : Int).toNat = p := Int.toNat_natCast p
  have tm : (m : Int).toNat = m := Int.toNat_natCast m
  obtain ⟨hL, eP⟩ := lm.has ok h0
  obtain ⟨hM, D1, eD⟩ := mm.has ok hm
  have pall := pitch_all (more := more) (many := many) (L := L) (Q := fun r mm => K 22 [some (vR 0), some (vR hl), none, some (vI (m : Int)), none] (r.toList ++ []) mm (0, 0)) hs A M pk hL hM D1 hmy hmo (fun J1 F1 c1 => by
    rw [raw_is ok lm mm h0 hm hp] at c1
    have s := F1.lm A M
    have lm1 := lm.eq s.1 s.2.1 s.2.2.1
    have mm1 := mm.eq s.2.2.2.1 s.2.2.2.2.1 s.2.2.2.2.2.1
    refine B_X11_hungryIn_22 hK hs (b32 := by omega) (r32 := by rw [tm]; exact s9) (r38 := by rw [tm]; exact s9) (Aq38 := M.1) (k := ?_)
    refine s_wayOn M ?_
    rw [show fShl 1 (J1 h 1) - 1 = vOn R m by rw [mm1.2.1]; rfl]
    refine B_X11_hungryIn_42 hK hs (k := ?_)
    refine r_feed (m := m) (p := p) (more := more) hs A M ok lm1 mm1 h0 hm hp c1 ⟨by omega, by omega⟩ (Or.inr rfl) (by decide) (fun J2 F2 v2 r2 => ?_)
    have v3 : J2 24 4 = anV R m p more := congrArg Prod.fst v2
    rw [v3] at r2
    have kk := k J2 (F1.t F2.k) r2.1
    rw [← v3] at kk
    exact B_X11_hungryIn_46 hK hs (k := kk))
  obtain ⟨c0, c1, c3, c5, c10, ck⟩ := pall
  exact B_X11_hungryIn_0 hK hs (b5 := by omega) (r5 := by rw [tp]; exact s10) (b16 := by omega) (r16 := by rw [tm]; exact s9) (k0 := c0) (k1 := c1) (k3 := c3) (k5 := c5) (k10 := c10) (kb := ck)
