/-! the class answers: ahead -/
theorem r_feed {sh : oS} {J R : Nat → Nat → Int} {L : Nat → Nat → Int64} {Q : oQ} (hs : Sh sh) {hl hf hw h m p : Nat} {more way so : Int} (A : LA sh hl hf hw) (M : MA sh h) (ok : mOK R) (lm : lMat J R hl hf hw) (mm : mMat J R h m) (h0 : R 44 0 ≠ 0) (hm : (m : Int) < R 44 8) (hp : (p : Int) < R 44 14) (st : cSt J (pRaw R m p more)) (hmo : (0 ≤ more ∧ more ≤ 1) ∧ R 53 p + more ≤ 3) (hk : R 44 5 ≤ 9 ∨ so = 0) (hso : 0 ≤ so ∧ so ≤ 9)
    (k : ∀ J2, FrF J J2 → (J2 24 4, J2 24 5) = pEv R m p more way (R 47 m - 1) so → ((0 ≤ J2 24 4 ∧ J2 24 4 ≤ 990) ∧ 0 ≤ J2 24 5 ∧ J2 24 5 ≤ 13860) → Q none (sh, J2, L)) : T_X2_feed [vR 24, vR hl, vR h, vI way, vI so] (sh, J, L) Q := by
  obtain ⟨hL, eP⟩ := lm.has ok h0
  obtain ⟨hM, D1, eD⟩ := mm.has ok hm
  have rok := ok.raw (more := more) (p := p) (m := m) hp hm h0 hmo.1
  have l30 : (pRaw R m p more).length ≤ 30 := ok.r30 hp hm h0 ⟨hmo.1.1, hmo.2⟩
  refine s_cfeed hs A M hL (by rw [lm.2.2.2.1]; exact hk) hM D1 st l30 (by rw [eP, eD]; exact rok.1) hso (fun J2 F2 v2 r2 => ?_)
  rw [eD, ev_is ok lm mm h0 hm (by omega)] at v2
  exact k J2 F2 v2 r2
theorem FrF.y {I J : Nat → Nat → Int} (F : FrF I J) : FrY I J := F.mono (by decide) (by decide)
theorem FrF.kc {I J : Nat → Nat → Int} (F : FrF I J) (h : rKc I) : rKc J := h.eq F.y.rf (fun x => ⟨F 41 x (by simp) (by simp), F 42 x (by simp) (by simp), F 43 x (by simp) (by simp)⟩)
theorem FrF.st {I J : Nat → Nat → Int} {l : List stT} (F : FrF I J) (h : cSt I l) : cSt J l := h.fr (F 25 3 (by decide) (by decide)) (fn_eq F 26 (by decide) (by decide)) (fn_eq F 27 (by decide) (by decide)) (fn_eq F 28 (by decide) (by decide))
set_option maxHeartbeats 1000000 in
theorem c_ahead {sh : oS} {I : Nat → Nat → Int} {L : Nat → Nat → Int64} {Q : oQ} (hs : Sh sh) {b : Nat} {plan march : Int} (R : Rel sh I b 0) (hp : inR plan) (hm : inR march) (k : ∀ J, Rel sh J b (aheA I plan march - I 44 21) → rfE I J → Q (some (vI (aheV I plan march))) (sh, J, L)) : T_X11_ahead [vR 0, vI plan, vI march] (sh, I, L) Q := by
  refine And.intro (Nat.le_of_ble_eq_true rfl) (fun K hK => ?_)
  obtain ⟨hn, ht, R⟩ := R
  have ok := R.1.1
  have o10 := R.1.1.2.2.2.2.2.2.2.2.2.1
  have o8 := R.1.1.2.2.2.2.2.2.2.1
  have o21 := R.1.2.2.1
  have e11 := R.2.2.2.2.2.2.1.2
  unfold aheV aheA at k
  have idn : ∀ {X : Prop} [Decidable X], ¬ X → Rel sh I b ((if X then I 44 21 + 1 else I 44 21) - I 44 21) := fun hx => by
    rw [if_neg hx, Int.sub_self]
    exact ⟨hn, ht, R⟩
  refine B_X11_ahead_0 hK hs (k := ?_)
  refine s_refusal hs R hp hm (fun r hr hz => ?_)
  have rb := bar1 (I := I) (plan := plan) (march := march)
  rw [← hr] at rb k
  refine B_X11_ahead_6 hK (n8 := by omega) (kt := fun z => ?_) (kf := fun z => ?_)
  rotate_left
  · have kk := k I (idn (fun u => z u.1)) rfl
    rw [if_neg z] at kk
    exact B_X11_ahead_11 hK (k := kk)
  obtain ⟨p, m, e1, e2, hpl, hml, h0⟩ := hz z
  subst e1 e2
  rw [if_pos z, Int.toNat_natCast, Int.toNat_natCast] at k
  refine B_X11_ahead_13 hK hs (n19a := by omega) (kt := fun z2 => ?_) (kf := fun z2 => ?_)
  rotate_left
  · have kk := k I (idn (fun u => u.2 (by omega))) rfl
    rw [if_pos (by omega)] at kk
    exact B_X11_ahead_22 hK (k := kk)
  rw [if_neg (show ¬ I 44 21 = 30 by omega), if_pos (show r = 0 ∧ I 44 21 ≠ 30 by omega), show I 44 21 + 1 - I 44 21 = 1 by omega] at k
  have om := ok.2.2.2.2.2.2.2.2.1 m hml
  have on := vOn_bd om.2.1
  have q53 := ok.2.2.2.2.2.2.2.2.2.2 p hpl
  obtain ⟨h, s9, -⟩ := R.2.2.2.1.2 m hml
  have tm : (m : Int).toNat = m := Int.toNat_natCast m
  refine B_X11_ahead_25 hK hs (b40 := by omega) (r40 := by rw [tm]; exact s9) (k := ?_)
  obtain ⟨R1, E1⟩ := R.five
  generalize u2 I 0 11 (I 0 11 + 1) = J0 at R1 E1
  refine r_pitch hs R1 (by rw [E1.at (by omega)]; exact hpl) (by rw [E1.at (by omega)]; exact hml) (by rw [E1.at (by omega)]; exact h0) (fun J1 F1 k1 q1 c1 => ?_)
  rw [E1.raw] at c1
  refine B_X11_ahead_49 hK (k := ?_)
  have lp : ∀ (q e : Nat) (J : Nat → Nat → Int), e + q = 10 → rfE I J → RelX sh J b hn ht 1 → cSt J (pRaw I m p 0) → (∀ J2, Rel sh J2 b 1 → rfE I J2 → Q (some (vI (ahF (fun e => (pEv I m p 0 (vOn I m) (I 47 m - 1) e).1) q e))) (sh, J2, L)) → K 52 [some (vR 0), none, none, none, some (vR h), some (vI (e : Int))] [] (sh, J, L) (0, 0) := by
    intro q
    induction q with
    | zero =>
      intro e J he E RJ cJ kk
      refine B_X11_ahead_52 hK (n56a := by omega) (kt := fun _ => ?_) (kf := fun t => absurd (by omega) t)
      exact B_X11_ahead_98 hK (k := kk J ⟨hn, ht, RJ⟩ E)
    | succ q ih =>
      intro e J he E RJ cJ kk
      refine B_X11_ahead_52 hK (n56a := by omega) (kt := fun t => absurd t (by omega)) (kf := fun _ => ?_)
      obtain ⟨h', s9', mrJ, -⟩ := RJ.2.2.2.1.2 m (by rw [E.at (by omega)]; exact hml)
      have hh' : h' = h := by rw [s9] at s9'; exact (Option.some.inj s9').symm
      subst hh'
      refine B_X11_ahead_59 hK hs (Ah4 := mrJ.1.1) (k := ?_)
      refine s_wayOn mrJ.1 ?_
      have ev : fShl 1 (J h' 1) - 1 = vOn I m := by rw [mrJ.2.2.2.1, E.at (by omega)]; rfl
      rw [ev]
      refine B_X11_ahead_74 hK hs (k := ?_)
      have e53 : J 53 p = I 53 p := E.at (by omega)
      refine r_feed (m := m) (p := p) (more := 0) hs (laT hs) mrJ.1 RJ.1.1 RJ.2.2.1.mat mrJ.mat (by rw [E.at (by omega)]; exact h0) (by rw [E.at (by omega)]; exact hml) (by rw [E.at (by omega)]; exact hpl) (by rw [E.raw]; exact cJ) ⟨by decide, by rw [e53]; omega⟩ (Or.inl RJ.1.2.1.2.1) (by omega) (fun J2 F2 v2 r2 => ?_)
      rw [E.ev, E.at (a := 47) (by omega)] at v2
      have v3 : J2 24 4 = (pEv I m p 0 (vOn I m) (I 47 m - 1) e).1 := congrArg Prod.fst v2
      have R2 := RJ.y F2.y (F2.kc RJ.2.2.2.2.2.1)
      unfold ahF at kk
      refine B_X11_ahead_79 hK hs (n86 := by omega) (kt := fun y => ?_) (kf := fun y => ?_)
      · rw [v3] at y
        rw [if_neg y] at kk
        exact B_X11_ahead_92 hK (k := ih (e + 1) J2 (by omega) (E.t F2.y.rf) R2 (F2.st cJ) kk)
      · have y := Classical.not_not.1 y
        rw [v3] at y
        rw [if_pos y] at kk
        exact B_X11_ahead_89 hK (k := kk J2 ⟨hn, ht, R2⟩ (E.t F2.y.rf))
  exact lp 10 0 J1 (by decide) (E1.t F1.rf) (R1.y F1 k1) c1 k
