/-! the class: what changes it -/
theorem mRel.eq2 {sh : oS} {I J : Nat → Nat → Int} {m h : Nat} (a : mRel sh I m h) (e : ∀ x k, 47 ≤ x → x ≤ 51 → J x k = I x k) (q : ∀ x k, h ≤ x → x ≤ h + 3 → J x k = I x k) : mRel sh J m h := by
  obtain ⟨a1, a2, a3, a4, a5, a6⟩ := a
  refine ⟨a1, a2, by rw [q h 0 (by omega) (by omega), e 47 m (by decide) (by decide)]; exact a3, by rw [q h 1 (by omega) (by omega), e 50 m (by decide) (by decide)]; exact a4, fun d hd => ?_, fun c hc => ?_⟩
  · rw [e 47 m (by decide) (by decide)] at hd
    rw [q _ d (by omega) (by omega), q _ d (by omega) (by omega), e 49 _ (by decide) (by decide), e 48 _ (by decide) (by decide)]
    exact a5 d hd
  · rw [e 50 m (by decide) (by decide)] at hc
    rw [q _ c (by omega) (by omega), e 51 _ (by decide) (by decide)]
    exact a6 c hc
theorem pRel.eq2 {sh : oS} {I J : Nat → Nat → Int} {p g : Nat} (a : pRel sh I p g) (e : ∀ x k, 52 ≤ x → x ≤ 55 → J x k = I x k) (q : ∀ x k, g ≤ x → x < g + (if I 52 p = 4 then 4 else 1) → J x k = I x k) : pRel sh J p g := by
  unfold pRel
  rw [e 52 p (by decide) (by decide), e 53 p (by decide) (by decide), e 54 p (by decide) (by decide)]
  exact pK.eq a (fun x _ => e 55 _ (by decide) (by decide)) q
theorem RelX.gen {sh : oS} {I J : Nat → Nat → Int} {b b' hn ht : Nat} {a a' : Int} (h : RelX sh I b hn ht a) (hS : rS J b') (hPg : rPg J) (hLd : rLd J) (e : ∀ x k, 47 ≤ x → x ≤ 55 → J x k = I x k) (e8 : J 44 8 = I 44 8) (e14 : J 44 14 = I 44 14) (c8 : J 0 8 = I 0 8) (c9 : J 0 9 = I 0 9) (q : ∀ x k, (15 ≤ x ∧ x ≤ 22) ∨ 77 ≤ x → J x k = I x k) (hKc : rKc J) (h10 : J 0 10 = J 44 7) (h11 : J 0 11 = J 44 21 + a') (hIm : rIm J) : RelX sh J b' hn ht a' := by
  obtain ⟨-, -, -, h4, h5, -, -, -, h9⟩ := h
  refine ⟨hS, hPg, hLd, ⟨by rw [c8, e8]; exact h4.1, fun m hm => ?_⟩, ⟨by rw [c9, e14]; exact h5.1, fun p hp => ?_⟩, hKc, ⟨h10, h11⟩, hIm, ?_⟩
  · rw [e8] at hm
    obtain ⟨y, y1, y2, y3⟩ := h4.2 m hm
    have yy := y2.1.2
    have yn := y2.2.1
    exact ⟨y, y1, y2.eq2 (fun x k h1 h2 => e x k h1 (by omega)) (fun x k h1 h2 => q x k (by omega)), y3⟩
  · rw [e14] at hp
    obtain ⟨y, y1, y2, y3⟩ := h5.2 p hp
    have e52 : J 52 p = I 52 p := e 52 p (by decide) (by decide)
    have yy := y2.1
    rw [e52]
    refine ⟨y, y1, y2.eq2 (fun x k h1 h2 => e x k (by omega) h2) (fun x k h1 h2 => q x k ?_), y3⟩
    by_cases z : I 52 p = 4
    · rw [if_pos z] at h2; omega
    · rw [if_neg z] at h2; omega
  · obtain ⟨x1, x2, x3, x4, x5, x6, x7, x8, x9, x10⟩ := h9
    have t5 := x5.2
    exact ⟨x1, x2, x3, x4, x5, x6, x7, x8, by rw [q ht 0 (by omega)]; exact x9, by rw [q ht 1 (by omega)]; exact x10⟩
theorem s_forget {sh : oS} {I : Nat → Nat → Int} {L : Nat → Nat → Int64} {Q : oQ} (hs : Sh sh) (k : ∀ J, Fr [41, 42, 43] [] I J → (∀ x, x < 128 → J 41 x = -1 ∧ J 42 x = -1) → (∀ x, x < 32 → J 43 x = -1) → Q none (sh, J, L)) : T_X11_forget [vR 0] (sh, I, L) Q := by
  refine And.intro (Nat.le_of_ble_eq_true rfl) (fun K hK => ?_)
  refine B_X11_forget_0 hK hs (k := ?_)
  refine s_fill (n := 128) (sk_41 hs) (sl_41 hs) (by decide) (fun J1 F1 e1 => ?_)
  refine B_X11_forget_8 hK hs (k := ?_)
  refine s_fill (n := 128) (sk_42 hs) (sl_42 hs) (by decide) (fun J2 F2 e2 => ?_)
  refine B_X11_forget_16 hK hs (k := ?_)
  refine s_fill (n := 32) (sk_43 hs) (sl_43 hs) (by decide) (fun J3 F3 e3 => ?_)
  refine B_X11_forget_24 hK (k := k J3 ?_ (fun x hx => ⟨?_, ?_⟩) e3)
  · intro x y h1 h2
    rw [F3 x y (by simp at h1 ⊢; omega) (by simp), F2 x y (by simp at h1 ⊢; omega) (by simp), F1 x y (by simp at h1 ⊢; omega) (by simp)]
  · rw [F3 41 x (by simp) (by simp), F2 41 x (by simp) (by simp)]
    exact e1 x hx
  · rw [F3 42 x (by simp) (by simp)]
    exact e2 x hx
theorem rKc.fgt {J : Nat → Nat → Int} (h1 : ∀ x, x < 128 → J 41 x = -1) (h2 : ∀ x, x < 32 → J 43 x = -1) : rKc J := ⟨fun p m w hp hm hw => Or.inl (h1 _ (by omega)), fun p m hp hm => Or.inl (h2 _ (by omega))⟩
theorem c_at {sh : oS} {I : Nat → Nat → Int} {L : Nat → Nat → Int64} {Q : oQ} (hs : Sh sh) {b : Nat} {a march way day : Int} (R : Rel sh I b a) (hm : inR march) (hw : inR way) (hd : inR day) (k : ∀ J, Rel sh J b a → rfE I J → Q (some (vI (atV I march way day))) (sh, J, L)) : T_X11_at [vR 0, vI march, vI way, vI day] (sh, I, L) Q := by
  refine And.intro (Nat.le_of_ble_eq_true rfl) (fun K hK => ?_)
  obtain ⟨hn, ht, R⟩ := R
  unfold atV at k
  have out : (¬ (0 ≤ march ∧ march < I 44 8) ∨ ¬ (0 ≤ day ∧ day < I 47 march.toNat)) → K 25 [none, none, none, none, none] [] (sh, I, L) (0, 0) := fun z => by
    rw [if_pos z] at k
    exact B_X11_at_25 hK (k := k I ⟨hn, ht, R⟩ rfl)
  refine B_X11_at_0 hK hs (k := ?_)
  refine s_marchOf hs R hm (fun m h em hml s9 mr => ?_) (fun z => B_X11_at_5n hK (k := out (Or.inl z)))
  subst em
  rw [Int.toNat_natCast] at k out
  have ok := R.1.1
  have o0 := ok.1
  have om := ok.2.2.2.2.2.2.2.2.1 m hml
  have e30 := R.2.2.1.1
  have e0 := mr.2.2.1
  refine B_X11_at_5 hK (k := ?_)
  refine B_X11_at_12 hK (n13 := hd) (kt := fun z => out (Or.inr (by omega))) (kf := fun z => ?_)
  refine B_X11_at_16 hK (Ah4 := mr.1.1) (n22a := hd) (n22b := by omega) (kt := fun z2 => ?_) (kf := fun z2 => out (Or.inr (by omega)))
  rw [if_neg (show ¬ (¬ (0 ≤ (m : Int) ∧ (m : Int) < I 44 8) ∨ ¬ (0 ≤ day ∧ day < I 47 m)) by omega)] at k
  refine B_X11_at_28 hK hs (n35 := by omega) (kt := fun z3 => ?_) (kf := fun z3 => ?_)
  rotate_left
  · rw [if_pos (show I 44 0 = 0 by omega)] at k
    exact B_X11_at_38 hK (k := k I ⟨hn, ht, R⟩ rfl)
  have h0 : ¬ I 44 0 = 0 := by omega
  rw [if_neg h0] at k
  refine B_X11_at_41 hK (Ah4 := mr.1.1) (k := ?_)
  have e1 := mr.2.2.2.1
  refine s_hasWay mr.1 hw (by omega) (fun r hr => ?_)
  have ev : fShl 1 (I h 1) - 1 = vOn I m := by rw [e1]; rfl
  rw [ev] at hr
  refine B_X11_at_47 hK (n47 := by omega) (kt := fun z4 => ?_) (kf := fun z4 => ?_)
  rotate_left
  · have c : ¬ (0 ≤ way ∧ way ≤ vOn I m) := by omega
    rw [if_pos c] at k
    exact B_X11_at_50 hK (k := k I ⟨hn, ht, R⟩ rfl)
  have c : ¬ ¬ (0 ≤ way ∧ way ≤ vOn I m) := by omega
  rw [if_neg c] at k
  obtain ⟨hM, D1, eD⟩ := mr.mat.has ok hml
  refine B_X11_at_53 hK hs (Ah4 := mr.1.1) (k := ?_)
  refine s_cwalk hs mr.1 hM (by omega) (fun J F v => ?_)
  refine B_X11_at_73 hK hs (b81 := by omega) (k := ?_)
  rw [v day.toNat (by omega), e30]
  have F2 : FrY I J := F.mono (by decide) (by decide)
  have kJ : rKc J := R.2.2.2.2.2.1.eq F2.rf (fun x => ⟨F 41 x (by simp) (by simp), F 42 x (by simp) (by simp), F 43 x (by simp) (by simp)⟩)
  have kk := k J ⟨hn, ht, R.y F2 kJ⟩ F2.rf
  rw [← colP_cg (S := I (h + 2)) (S' := vS I m) (D := (I 47 m).toNat) (fun d hd2 => by
    unfold vS
    rw [if_pos (by omega)]
    exact (mr.2.2.2.2.1 d (by omega)).2) (by omega)] at kk
  exact kk
/-- what the values hang upon -/
def prE (I : Nat → Nat → Int) : Nat → Nat → Int := fun h k => if (h = 44 ∧ (k ≤ 6 ∨ k = 8 ∨ k = 14)) ∨ (45 ≤ h ∧ h ≤ 55) then I h k else 0
theorem pEv_prE (I : Nat → Nat → Int) (m p : Nat) (more way last so : Int) : pEv (prE I) m p more way last so = pEv I m p more way last so := rfl
theorem vOn_prE (I : Nat → Nat → Int) (m : Nat) : vOn (prE I) m = vOn I m := rfl
theorem mOK_prE (I : Nat → Nat → Int) : mOK (prE I) = mOK I := rfl
theorem pBs_prE (I : Nat → Nat → Int) (m p : Nat) : pBs (prE I) m p = pBs I m p := rfl
def rfV (I J : Nat → Nat → Int) : Prop := prE J = prE I
theorem rfV.of {I J : Nat → Nat → Int} (h : ∀ a k, (a = 44 ∧ (k ≤ 6 ∨ k = 8 ∨ k = 14)) ∨ (45 ≤ a ∧ a ≤ 55) → J a k = I a k) : rfV I J := by
  funext a k
  unfold prE
  by_cases c : (a = 44 ∧ (k ≤ 6 ∨ k = 8 ∨ k = 14)) ∨ (45 ≤ a ∧ a ≤ 55)
  · rw [if_pos c, if_pos c, h a k c]
  · rw [if_neg c, if_neg c]
theorem rfV.at {I J : Nat → Nat → Int} (h : rfV I J) {a k : Nat} (c : (a = 44 ∧ (k ≤ 6 ∨ k = 8 ∨ k = 14)) ∨ (45 ≤ a ∧ a ≤ 55)) : J a k = I a k := by
  have e := congrFun (congrFun h a) k
  unfold prE at e
  rw [if_pos c, if_pos c] at e
  exact e
theorem rfV.ok {I J : Nat → Nat → Int} (h : rfV I J) : mOK J = mOK I := by
  rw [← mOK_prE J, ← mOK_prE I, h]
theorem rfV.ev {I J : Nat → Nat → Int} (h : rfV I J) (m p : Nat) (more way last so : Int) : pEv J m p more way last so = pEv I m p more way last so := by
  rw [← pEv_prE J, ← pEv_prE I, h]
theorem rfV.on {I J : Nat → Nat → Int} (h : rfV I J) (m : Nat) : vOn J m = vOn I m := by
  rw [← vOn_prE J, ← vOn_prE I, h]
theorem rfV.bs {I J : Nat → Nat → Int} (h : rfV I J) (m p : Nat) : pBs J m p = pBs I m p := by
  rw [← pBs_prE J, ← pBs_prE I, h]
theorem rKc.eqV {I J : Nat → Nat → Int} (h : rKc I) (e : rfV I J) (q : ∀ x, J 41 x = I 41 x ∧ J 42 x = I 42 x ∧ J 43 x = I 43 x) : rKc J := by
  refine ⟨fun p m w hp hm hw => ?_, fun p m hp hm => ?_⟩
  · rw [(q _).1, (q _).2.1, e.ev, e.on, e.at (a := 44) (k := 14) (by omega), e.at (a := 44) (k := 8) (by omega), e.at (a := 44) (k := 0) (by omega), e.at (a := 47) (by omega)]
    exact h.1 p m w hp hm hw
  · rw [(q _).2.2, e.bs, e.at (a := 44) (k := 14) (by omega), e.at (a := 44) (k := 8) (by omega), e.at (a := 44) (k := 0) (by omega), e.at (a := 52) (by omega), e.at (a := 53) (by omega)]
    exact h.2 p m hp hm
/-- letters come and go -/
theorem RelX.pg {sh : oS} {I J : Nat → Nat → Int} {b hn ht : Nat} {a : Int} (R : RelX sh I b hn ht a) (q : ∀ x y, ¬ (x = 1 ∧ (y = 1 ∨ y = 2)) → x ≠ 2 → ¬ (x = 44 ∧ y = 19) → x ≠ 56 → J x y = I x y) (p1 : 0 ≤ J 44 19 ∧ J 44 19 ≤ 60) (p2 : ∀ x : Nat, (x : Int) < J 44 19 → 1 ≤ J 56 x ∧ J 56 x ≤ 126) (p3 : rPg J) : RelX sh J b hn ht a := by
  obtain ⟨⟨s1, s2, s3, s4, s5, s6⟩, r2, r3, -, -, r6, r7, r8, -⟩ := id R
  have e : rfV I J := rfV.of (fun x k c => q x k (by omega) (by omega) (by omega) (by omega))
  have q1 : ∀ x y, x ≠ 1 → x ≠ 2 → x ≠ 44 → x ≠ 56 → J x y = I x y := fun x y h1 h2 h3 h4 => q x y (by omega) h2 (by omega) h4
  have q44 : ∀ y, y ≠ 19 → J 44 y = I 44 y := fun y h => q 44 y (by omega) (by omega) (by omega) (by omega)
  refine R.gen ⟨by rw [e.ok]; exact s1, ?_, ?_, p1, p2, ?_⟩ p3 ?_ (fun x k h1 h2 => q1 x k (by omega) (by omega) (by omega) (by omega)) (q44 _ (by decide)) (q44 _ (by decide)) (q1 _ _ (by omega) (by omega) (by omega) (by omega)) (q1 _ _ (by omega) (by omega) (by omega) (by omega)) (fun x k h => q1 x k (by omega) (by omega) (by omega) (by omega)) ?_ ?_ ?_ ?_
  · rw [q44 3 (by decide), q44 5 (by decide)]
    exact ⟨s2.1, s2.2.1, fun p hp => by rw [q1 45 p (by omega) (by omega) (by omega) (by omega)]; exact s2.2.2 p hp⟩
  · rw [q44 21 (by decide)]; exact s3
  · rw [q44 7 (by decide)]; exact s6
  · unfold rLd
    rw [q1 3 0 (by omega) (by omega) (by omega) (by omega), q1 3 3 (by omega) (by omega) (by omega) (by omega), q1 3 4 (by omega) (by omega) (by omega) (by omega), q1 3 5 (by omega) (by omega) (by omega) (by omega), q1 3 6 (by omega) (by omega) (by omega) (by omega), q44 0 (by decide), q44 3 (by decide), q44 4 (by decide), q44 5 (by decide), q44 6 (by decide)]
    refine ⟨r3.1, r3.2.1, r3.2.2.1, r3.2.2.2.1, r3.2.2.2.2.1, fun p hp => ?_⟩
    rw [q1 4 p (by omega) (by omega) (by omega) (by omega), q1 5 p (by omega) (by omega) (by omega) (by omega), q1 45 p (by omega) (by omega) (by omega) (by omega), q1 46 p (by omega) (by omega) (by omega) (by omega)]
    exact r3.2.2.2.2.2 p hp
  · exact r6.eqV e (fun x => ⟨q1 41 x (by omega) (by omega) (by omega) (by omega), q1 42 x (by omega) (by omega) (by omega) (by omega), q1 43 x (by omega) (by omega) (by omega) (by omega)⟩)
  · rw [q1 0 10 (by omega) (by omega) (by omega) (by omega), q44 7 (by decide)]; exact r7.1
  · rw [q1 0 11 (by omega) (by omega) (by omega) (by omega), q44 21 (by decide)]; exact r7.2
  · unfold rIm
    rw [q44 0 (by decide), q44 7 (by decide), q44 22 (by decide), q1 0 13 (by omega) (by omega) (by omega) (by omega), q44 23 (by decide)]
    refine ⟨r8.1, ?_⟩
    rcases r8.2 with z | ⟨z1, z2, z3, z4⟩
    · exact Or.inl z
    · refine Or.inr ⟨z1, z2, z3, fun w p hp => ?_⟩
      rw [q1 23 p (by omega) (by omega) (by omega) (by omega), q1 57 p (by omega) (by omega) (by omega) (by omega)]
      exact z4 w p hp
theorem c_blank {sh : oS} {I : Nat → Nat → Int} {L : Nat → Nat → Int64} {Q : oQ} (hs : Sh sh) {b : Nat} {a : Int} (R : Rel sh I b a) (k : ∀ J, rfE I J → Rel sh (u2 J 44 19 0) b a → Q (some (vI (I 44 19))) (sh, J, L)) : T_X11_blank [vR 0] (sh, I, L) Q := by
  refine And.intro (Nat.le_of_ble_eq_true rfl) (fun K hK => ?_)
  obtain ⟨hn, ht, R⟩ := R
  refine B_X11_blank_0 hK hs (k := ?_)
  have e : rfE I (u2 I 1 1 0) := rfE.of (fun x k c => uN (by omega))
  rw [R.2.1.1]
  have v1 : (u2 (u2 I 1 1 0) 44 19 0) 1 1 = 0 := by simp [u2]
  have v2 : (u2 (u2 I 1 1 0) 44 19 0) 44 19 = 0 := by simp [u2]
  refine k _ e ⟨hn, ht, R.pg (fun x y h1 h2 h3 h4 => by rw [uF (by omega), uF (by omega)]) (by rw [v2]; decide) (fun x hx => by rw [v2] at hx; omega) ⟨by rw [v1, v2], fun x hx => by rw [v2] at hx; omega⟩⟩
theorem s_lettersIn {sh : oS} {I : Nat → Nat → Int} {L : Nat → Nat → Int64} {Q : oQ} {w : Int64} (k : Q (some (vI (ltF w 8))) (sh, I, L)) : T_X11_lettersIn [vL w] (sh, I, L) Q := by
  refine And.intro (Nat.le_of_ble_eq_true rfl) (fun K hK => ?_)
  have bad : ∀ i : Nat, i < 8 → ltF w (i + 1) < 0 → K 40 [none, none, none, none, none] [] (sh, I, L) (0, 0) := fun i hi h => by
    have h8 := ltF_bad2 (n := 8) (by omega) h
    have bd := ltF_bd (w := w) 8
    rw [show ltF w 8 = -1 by omega] at k
    exact B_X11_lettersIn_40 hK (k := k)
  have lp : ∀ (q i : Nat), i + q = 8 → 0 ≤ ltF w i → K 4 [some (vL w), none, some (vI (ltF w i)), some (vI (i : Int)), none] [] (sh, I, L) (0, 0) := by
    intro q
    induction q with
    | zero =>
      intro i hi h0
      refine B_X11_lettersIn_4 hK (n7a := by omega) (kt := fun _ => ?_) (kf := fun z => absurd (by omega) z)
      rw [show (8 : Nat) = i by omega] at k
      exact B_X11_lettersIn_56 hK (k := k)
    | succ q ih =>
      intro i hi h0
      have bd := ltF_bd (w := w) i
      have cb := cod_bd (w := w) (i := i)
      refine B_X11_lettersIn_4 hK (n7a := by omega) (kt := fun z => absurd z (by omega)) (kf := fun _ => ?_)
      have nx := ih (i + 1) (by omega)
      have bi := bad i (by omega)
      unfold ltF at nx bi
      rw [if_neg (by omega)] at nx bi
      have ec := cod_cls (w := w) (i := i) (by omega)
      refine B_X11_lettersIn_10 hK (n27a := by rw [ec]; omega) (kt := fun z => ?_) (kf := fun z => ?_)
      · rw [ec] at z
        rw [if_pos (Or.inl z)] at bi
        exact bi (by decide)
      · rw [ec] at z ⊢
        have fin : (cod w i = 0 ∨ ¬ ltF w i < (i : Int)) → K 42 [some (vL w), none, some (vI (ltF w i)), some (vI (i : Int)), some (vI (cod w i))] [] (sh, I, L) (0, 0) := fun t => by
          rw [if_neg (by omega)] at nx
          refine B_X11_lettersIn_42 hK (n44 := by omega) (kt := fun y => ?_) (kf := fun y => ?_)
          · rw [if_pos y, Int.add_zero] at nx
            exact B_X11_lettersIn_50 hK (k := nx h0)
          · rw [if_neg y] at nx
            exact B_X11_lettersIn_47 hK (k := B_X11_lettersIn_50 hK (k := nx (by omega)))
        refine B_X11_lettersIn_30 hK (n32 := by omega) (kt := fun y => fin (Or.inl y)) (kf := fun y => ?_)
        refine B_X11_lettersIn_35 hK (n37a := by omega) (n37b := by omega) (kt := fun x => fin (Or.inr (by omega))) (kf := fun x => ?_)
        rw [if_pos (Or.inr ⟨y, by omega⟩)] at bi
        exact bi (by decide)
  refine B_X11_lettersIn_0 hK (k := ?_)
  exact lp 8 0 (by decide) (Int.le_refl _)
theorem ltF_nz {w : Int64} : ∀ i : Nat, 0 ≤ ltF w i → ∀ j : Nat, (j : Int) < ltF w i → cod w j ≠ 0
  | 0, _, j, hj => by
    have : ltF w 0 = 0 := rfl
    omega
  | i + 1, h, j, hj => by
    have ih := ltF_nz (w := w) i
    have bd := ltF_bd (w := w) i
    unfold ltF at h hj
    by_cases z : ltF w i < 0
    · rw [if_pos z] at h; omega
    · rw [if_neg z] at h hj
      by_cases y : 126 < cod w i ∨ (cod w i ≠ 0 ∧ ltF w i < i)
      · rw [if_pos y] at h; omega
      · rw [if_neg y] at h hj
        by_cases x : cod w i = 0
        · rw [if_pos x] at hj
          exact ih (by omega) j (by omega)
        · rw [if_neg x] at hj
          by_cases t : (j : Int) < ltF w i
          · exact ih (by omega) j t
          · have : j = i := by omega
            rw [this]
            exact x
set_option maxHeartbeats 1000000 in
theorem c_letters {sh : oS} {I : Nat → Nat → Int} {L : Nat → Nat → Int64} {Q : oQ} (hs : Sh sh) {b : Nat} {a : Int} {w : Int64} (R : Rel sh I b a) (k : ∀ J, rfE I J → Rel sh (letI2 J w) b a → Q (some (vI (letV I w))) (sh, J, L)) : T_X11_letters [vR 0, vL w] (sh, I, L) Q := by
  refine And.intro (Nat.le_of_ble_eq_true rfl) (fun K hK => ?_)
  obtain ⟨hn, ht, R⟩ := R
  obtain ⟨g1, g2⟩ := id R.2.1
  have s4 := R.1.2.2.2.1
  have s5 := R.1.2.2.2.2.1
  have bd := ltF_bd (w := w) 8
  have same : ¬ (0 ≤ ltF w 8 ∧ I 44 19 + ltF w 8 ≤ 60) → Rel sh (letI2 I w) b a := fun z => by
    unfold letI2
    rw [if_neg z]
    exact ⟨hn, ht, R⟩
  unfold letV at k
  refine B_X11_letters_0 hK (k := ?_)
  refine s_lettersIn ?_
  refine B_X11_letters_4 hK (n6 := by omega) (kt := fun z => ?_) (kf := fun z => ?_)
  rotate_left
  · have kk := k I rfl (same (by omega))
    rw [if_pos (by omega)] at kk
    exact B_X11_letters_9 hK (k := kk)
  refine B_X11_letters_12 hK hs (n23a := by omega) (kt := fun z2 => ?_) (kf := fun z2 => ?_)
  rotate_left
  · have kk := k I rfl (same (by omega))
    rw [if_neg (by omega), if_neg (by omega)] at kk
    exact B_X11_letters_26 hK (k := kk)
  rw [if_neg (by omega), if_pos (by omega)] at k
  obtain ⟨n, hn8⟩ := Int.eq_ofNat_of_zero_le z
  obtain ⟨c, hc⟩ := Int.eq_ofNat_of_zero_le s4.1
  rw [hn8] at k z2 ⊢
  refine B_X11_letters_29 hK (k := ?_)
  have lp : ∀ (d i : Nat) (J : Nat → Nat → Int), i + d = n → Fr [2] [(1, 1)] I J → J 1 1 = ((c + i : Nat) : Int) → (∀ x : Nat, J 2 x = if c ≤ x ∧ x < c + i then cod w (x - c) else I 2 x) → K 32 [some (vR 0), some (vL w), none, some (vI (n : Int)), some (vI (i : Int))] [] (sh, J, L) (0, 0) := by
    intro d
    induction d with
    | zero =>
      intro i J hd F j1 j2
      refine B_X11_letters_32 hK (n35a := by omega) (n35b := by omega) (kt := fun _ => ?_) (kf := fun t => absurd (by omega) t)
      refine B_X11_letters_63 hK hs (k := ?_)
      have e : rfE I J := rfE.of (fun x y t => F x y (by simp <;> omega) (by simp <;> omega))
      have e19 : J 44 19 = (c : Int) := by rw [e.at (by omega)]; exact hc
      have kk := k J e
      rw [j1, show ((c + i : Nat) : Int) = I 44 19 + (n : Int) by omega]
      refine kk ⟨hn, ht, ?_⟩
      have hi : letI2 J w = u2 (wrN J 56 c n (cod w)) 44 19 ((c + n : Nat) : Int) := by
        unfold letI2
        rw [hn8, e19, if_pos (by omega), Int.toNat_natCast, Int.toNat_natCast]
        rfl
      rw [hi]
      have q : ∀ x y, ¬ (x = 44 ∧ y = 19) → x ≠ 56 → (u2 (wrN J 56 c n (cod w)) 44 19 ((c + n : Nat) : Int)) x y = J x y := fun x y h1 h2 => by
        rw [uF (by omega)]
        unfold wrN
        rw [if_neg (by omega)]
      have v19 : (u2 (wrN J 56 c n (cod w)) 44 19 ((c + n : Nat) : Int)) 44 19 = ((c + n : Nat) : Int) := uA
      have v56 : ∀ x, (u2 (wrN J 56 c n (cod w)) 44 19 ((c + n : Nat) : Int)) 56 x = if c ≤ x ∧ x < c + n then cod w (x - c) else I 56 x := fun x => by
        rw [uN (by decide)]
        unfold wrN
        rw [e.at (a := 56) (by omega)]
        by_cases t : c ≤ x ∧ x < c + n
        · rw [if_pos ⟨rfl, t.1, t.2⟩, if_pos t]
        · rw [if_neg (by omega), if_neg t]
      generalize u2 (wrN J 56 c n (cod w)) 44 19 ((c + n : Nat) : Int) = Z at *
      have ei : i = n := by omega
      refine R.pg (fun x y h1 h2 h3 h4 => ?_) (by rw [v19]; omega) (fun x hx => ?_) ⟨?_, fun x hx => ?_⟩
      · rw [q x y h3 h4]
        exact F x y (by simp; exact h2) (by simp; omega)
      · rw [v19] at hx
        rw [v56]
        by_cases t : c ≤ x ∧ x < c + n
        · rw [if_pos t]
          have n1 := ltF_nz (w := w) 8 (by omega) (x - c) (by omega)
          have n2 := ltF_ok (w := w) (i := x - c) (by omega) (by omega)
          have n3 := cod_bd (w := w) (i := x - c)
          omega
        · rw [if_neg t]
          exact s5 x (by omega)
      · rw [q 1 1 (by omega) (by omega), j1, v19, ei]
      · rw [v19] at hx
        rw [q 2 x (by omega) (by omega), j2, v56, ei]
        by_cases t : c ≤ x ∧ x < c + n
        · rw [if_pos t, if_pos t]
        · rw [if_neg t, if_neg t]
          exact g2 x (by omega)
    | succ d ih =>
      intro i J hd F j1 j2
      refine B_X11_letters_32 hK (n35a := by omega) (n35b := by omega) (kt := fun t => absurd t (by omega)) (kf := fun _ => ?_)
      refine B_X11_letters_38 hK hs (k := ?_)
      rw [cod_cls (by omega)]
      refine s_put hs (by omega) ?_
      rw [show (J 1 1).toNat = c + i by omega]
      refine B_X11_letters_57 hK (k := ?_)
      refine ih (i + 1) _ (by omega) ((F.u 2 _ _ (by simp)).u 1 1 _ (by simp)) ?_ (fun x => ?_)
      · rw [uA]
        omega
      · rw [uN (by decide)]
        by_cases t : x = c + i
        · subst t
          rw [uA, if_pos (by omega), show c + i - c = i by omega]
        · rw [uK t, j2]
          by_cases u : c ≤ x ∧ x < c + i
          · rw [if_pos u, if_pos (by omega)]
          · rw [if_neg u, if_neg (by omega)]
  exact lp n 0 I (by omega) Fr.rf (by rw [g1]; omega) (fun x => by rw [if_neg (by omega)])
