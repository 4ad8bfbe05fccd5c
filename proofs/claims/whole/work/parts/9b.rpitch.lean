/-! the class's stands are those of the reference -/
def lMat (J R : Nat → Nat → Int) (hl hf hw : Nat) : Prop := J hl 0 = R 44 0 ∧ J hl 3 = R 44 3 ∧ J hl 4 = R 44 4 ∧ J hl 5 = R 44 5 ∧ ∀ p : Nat, (p : Int) < R 44 0 → J hf p = R 45 p ∧ J hw p = R 46 p
def mMat (J R : Nat → Nat → Int) (h m : Nat) : Prop := J h 0 = R 47 m ∧ J h 1 = R 50 m ∧ ∀ d : Nat, (d : Int) < R 47 m → J (h + 1) d = R 49 (10 * m + d) ∧ J (h + 2) d = R 48 (10 * m + d)
theorem lMat.has {J R : Nat → Nat → Int} {hl hf hw : Nat} (h : lMat J R hl hf hw) (ok : mOK R) (h0 : R 44 0 ≠ 0) : lHas J hl hf hw (R 44 0).toNat ∧ ((R 44 0).toNat : Int) = R 44 0 := by
  obtain ⟨h1, h2, h3, h4, h5⟩ := h
  obtain ⟨o1, o2, o3, o4, o5, o6, o7, -⟩ := ok
  refine ⟨⟨by omega, by omega, by omega, by omega, by omega, fun p hp => ?_, fun p hp => ?_⟩, by omega⟩
  · rw [(h5 p (by omega)).1]; exact o6 p (by omega)
  · rw [(h5 p (by omega)).2]; exact o7 p (by omega)
theorem mMat.has {J R : Nat → Nat → Int} {h m : Nat} (a : mMat J R h m) (ok : mOK R) (hm : (m : Int) < R 44 8) : mHas J h (R 47 m).toNat ∧ 1 ≤ (R 47 m).toNat ∧ ((R 47 m).toNat : Int) = R 47 m := by
  obtain ⟨a1, a2, a3⟩ := a
  have o := ok.2.2.2.2.2.2.2.2.1 m hm
  refine ⟨⟨by omega, by omega, fun d hd => ?_, fun d hd => ?_, by omega⟩, by omega, by omega⟩
  · rw [(a3 d (by omega)).2]; exact (o.2.2.1 d (by omega)).1
  · rw [(a3 d (by omega)).1]; exact (o.2.2.1 d (by omega)).2
theorem raw_is {J R : Nat → Nat → Int} {hl hf hw h m p : Nat} {more : Int} (ok : mOK R) (l : lMat J R hl hf hw) (a : mMat J R h m) (h0 : R 44 0 ≠ 0) (hm : (m : Int) < R 44 8) (hp : (p : Int) < R 44 14) : rwC J hl hf hw h (R 44 0).toNat (R 47 m).toNat (R 52 p) (R 53 p + more) (R 54 p) (fun x => R 55 (18 * p + x)) = pRaw R m p more := by
  have e1 := (l.has ok h0).2
  have e2 := (a.has ok hm).2
  obtain ⟨l1, l2, l3, l4, l5⟩ := l
  obtain ⟨a1, a2, a3⟩ := a
  have o := (ok.2.2.2.2.2.2.2.2.2.2 p hp).2
  have oo := ok.1
  unfold rwC pRaw
  rw [e1, l2, l3, l4, show fShl 1 (J h 1) - 1 = vOn R m by rw [a2]; rfl]
  have := rawL_cg (P := R 44 0) (bk := R 44 3) (bd := R 44 4) (kp := R 44 5) (way := vOn R m) (kind := R 52 p) (k := R 53 p + more) (n := R 54 p) (D := (R 47 m).toNat) (F := J hf) (F' := vF R) (wd := J hw) (wd' := vW R) (men := J (h + 1)) (men' := vM R m) (S := J (h + 2)) (S' := vS R m) (T := fun x => R 55 (18 * p + x)) (T' := fun x => R 55 (18 * p + x)) (by omega) e2.1 (fun k0 k3 k4 => by have := o.1; have := o.2.2.2.1 (by omega); omega) (fun x hx => by unfold vF; rw [if_pos hx]; exact (l5 x hx).1) (fun x hx => by unfold vW; rw [if_pos hx]; exact (l5 x hx).2) (fun d hd => by unfold vM; rw [if_pos (by omega)]; exact (a3 d (by omega)).1) (fun d hd => by unfold vS; rw [if_pos (by omega)]; exact (a3 d (by omega)).2) (fun _ _ => rfl)
  rw [e2.2] at this ⊢
  exact this
theorem ev_is {J R : Nat → Nat → Int} {hl hf hw h m p : Nat} {more way so last : Int} (ok : mOK R) (l : lMat J R hl hf hw) (a : mMat J R h m) (h0 : R 44 0 ≠ 0) (hm : (m : Int) < R 44 8) (hla : last < R 47 m) : evL ((R 44 0).toNat : Int) last (J hf) (J (h + 1)) (colP ((R 44 0).toNat : Int) (J (h + 2)) way) (pRaw R m p more) (J hl 3) (J hl 4) (J hl 5) so = pEv R m p more way last so := by
  have e1 := (l.has ok h0).2
  obtain ⟨l1, l2, l3, l4, l5⟩ := l
  obtain ⟨a1, a2, a3⟩ := a
  unfold pEv
  rw [e1, l2, l3, l4]
  refine evL_cg (fun x hx => by unfold vF; rw [if_pos hx]; exact (l5 x hx).1) (fun u hu => by unfold vM; rw [if_pos (by omega)]; exact (a3 u (by omega)).1) (fun u hu => ?_)
  refine colP_cg (D := (R 47 m).toNat) (fun d hd => ?_) (by omega)
  unfold vS
  rw [if_pos (by omega)]
  exact (a3 d (by omega)).2
theorem bs_is {J R : Nat → Nat → Int} {hl hf hw h m p : Nat} (ok : mOK R) (l : lMat J R hl hf hw) (a : mMat J R h m) (h0 : R 44 0 ≠ 0) (hm : (m : Int) < R 44 8) : (bsS (bMay ((R 44 0).toNat : Int) (J hw) (R 53 p)) (bsE ((R 44 0).toNat : Int) (J hf) (J hw) (J (h + 1)) (colP ((R 44 0).toNat : Int) (J (h + 2)) (fShl 1 (J h 1) - 1)) ((R 47 m).toNat : Int) (R 53 p) (J hl 3) (J hl 4) (J hl 5)) (if R 53 p = 1 then 8 else 64)).1 = pBs R m p := by
  have e1 := (l.has ok h0).2
  have e2 := (a.has ok hm).2
  obtain ⟨l1, l2, l3, l4, l5⟩ := l
  obtain ⟨a1, a2, a3⟩ := a
  unfold pBs
  rw [e1, e2.2, l2, l3, l4, show fShl 1 (J h 1) - 1 = vOn R m by rw [a2]; rfl]
  have w : ∀ x : Nat, (x : Int) < R 44 0 → J hw x = vW R x := fun x hx => by unfold vW; rw [if_pos hx]; exact (l5 x hx).2
  rw [bMay_cg w]
  congr 1
  refine bsS_cg _ (fun _ _ => rfl) (fun x _ _ => ?_)
  unfold bsE bTw
  rw [two_cg w]
  refine evL_cg (fun x hx => by unfold vF; rw [if_pos hx]; exact (l5 x hx).1) (fun u hu => by unfold vM; rw [if_pos (by omega)]; exact (a3 u (by omega)).1) (fun u hu => ?_)
  refine colP_cg (D := (R 47 m).toNat) (fun d hd => ?_) (by omega)
  unfold vS
  rw [if_pos (by omega)]
  exact (a3 d (by omega)).2
theorem rLd.mat {I : Nat → Nat → Int} (h : rLd I) : lMat I I 3 4 5 := ⟨h.1, h.2.1, h.2.2.1, h.2.2.2.1, h.2.2.2.2.2⟩
theorem mRel.mat {sh : oS} {I : Nat → Nat → Int} {m h : Nat} (a : mRel sh I m h) : mMat I I h m := ⟨a.2.2.1, a.2.2.2.1, a.2.2.2.2.1⟩
theorem laT {sh : oS} (hs : Sh sh) : LA sh 3 4 5 := ⟨landT hs, Or.inl ⟨rfl, rfl, rfl⟩⟩
theorem laO {sh : oS} (hs : Sh sh) : LA sh 6 7 8 := ⟨landO hs, Or.inr ⟨rfl, rfl, rfl⟩⟩
/-- all that a camp and what is kept may change -/
abbrev FrY (I J : Nat → Nat → Int) : Prop := Fr [26, 27, 28, 29, 30, 32, 33, 34, 35, 36, 37, 38, 39, 40, 41, 42, 43] [(25, 3), (31, 9), (31, 10), (31, 11), (31, 12), (31, 13), (24, 4), (24, 5)] I J
theorem FrK.y {I J : Nat → Nat → Int} (F : FrK I J) : FrY I J := F.mono (by decide) (by decide)
theorem FrY.t {I J K : Nat → Nat → Int} (F : FrY I J) (G : FrY J K) : FrY I K := F.tr G (fun _ h => h) (fun _ h => h) (fun _ h => Or.inr h) (fun _ h => Or.inr h)
theorem FrY.rf {I J : Nat → Nat → Int} (F : FrY I J) : rfE I J := rfE.of (fun x k c => F x k (by simp <;> omega) (by simp <;> omega))
theorem RelX.y {sh : oS} {I J : Nat → Nat → Int} {b hn ht : Nat} {a : Int} (h : RelX sh I b hn ht a) (F : FrY I J) (hk : rKc J) : RelX sh J b hn ht a := by
  refine h.fr F.rf hk ?_ (fun x k hx hs _ _ _ _ => F x k (by unfold scr at hs; simp <;> omega) (by unfold scr at hs; simp <;> omega))
  rw [F 0 11 (by simp) (by simp), F.rf.at (by omega)]
  exact h.2.2.2.2.2.2.1.2
theorem rKc.k {I J : Nat → Nat → Int} (h : rKc I) (F : FrK I J) : rKc J := h.eq F.y.rf (fun x => ⟨F 41 x (by simp) (by simp), F 42 x (by simp) (by simp), F 43 x (by simp) (by simp)⟩)
set_option maxHeartbeats 2000000 in
set_option maxRecDepth 4000 in
theorem r_pitch {sh : oS} {I : Nat → Nat → Int} {L : Nat → Nat → Int64} {Q : oQ} (hs : Sh sh) {b hn ht m p : Nat} {a : Int} (R : RelX sh I b hn ht a) (hp : (p : Int) < I 44 14) (hm : (m : Int) < I 44 8) (h0 : I 44 0 ≠ 0)
    (k : ∀ J, FrY I J → rKc J → (∀ x, J 41 x = I 41 x ∧ J 42 x = I 42 x) → cSt J (pRaw I m p 0) → Q none (sh, J, L)) : T_X11_pitch [vR 0, vI (p : Int), vI (m : Int)] (sh, I, L) Q := by
  refine And.intro (Nat.le_of_ble_eq_true rfl) (fun K hK => ?_)
  obtain ⟨⟨ok, -⟩, -, hld, ⟨-, hma⟩, ⟨-, hpl⟩, hkc, -⟩ := id R
  have o8 := ok.2.2.2.2.2.2.2.1
  have o10 := ok.2.2.2.2.2.2.2.2.2.1
  obtain ⟨h, s9, mr, -⟩ := hma m hm
  obtain ⟨g, s10, pr, -⟩ := hpl p hp
  have lm := hld.mat
  have mm := mr.mat
  have A := laT hs
  have M := mr.1
  obtain ⟨hL, eP⟩ := lm.has ok h0
  obtain ⟨hM, D1, eD⟩ := mm.has ok hm
  have tp : (p : Int).toNat = p := Int.toNat_natCast p
  have tm : (m : Int).toNat = m := Int.toNat_natCast m
  have pk := pr
  unfold pRel at pk
  have pall := pitch_all (more := 0) (many := I g 0) (L := L) (Q := fun r mm => K 115 [none, none, none, none, none, none] (r.toList ++ []) mm (0, 0)) hs A M pk hL hM D1 (by rw [pk.2.1]; omega) (Or.inl rfl) (fun J F c => by
    rw [raw_is ok lm mm h0 hm hp] at c
    exact B_X11_pitch_115 hK (k := k J F.y (hkc.k F) (fun x => ⟨F 41 x (by simp) (by simp), F 42 x (by simp) (by simp)⟩) c))
  obtain ⟨c0, c1, c3, c5, c10, ck⟩ := pall
  refine B_X11_pitch_0 hK hs (b5 := by omega) (r5 := by rw [tp]; exact s10) (ky := fun hy => ?_) (kn := fun hn2 => ?_) (kb := ck)
  · -- the best
    have hg1 : sK sh g = 1 := by simpa using hy
    obtain ⟨g0, g1, g2, gc⟩ := pk
    have hb : I 52 p = 3 ∧ (I 53 p = 1 ∨ I 53 p = 2) := by
      rcases gc with ⟨x, -⟩ | ⟨x, -⟩ | ⟨x, -⟩ | ⟨-, x1, x2, -⟩ | ⟨x, -⟩
      · omega
      · omega
      · omega
      · exact ⟨x1, x2⟩
      · omega
    refine hK.1 11 [some (vR 0), some (vI (p : Int)), some (vI (m : Int)), some (vR g), none, none] [vI 1] (sh, I, L) (0, 0) ?_
    refine And.intro (by decide) (And.intro (fun (z : (1 : Int) = 0) => absurd z (by decide)) (fun _ => ?_))
    have ti : ((p : Int) * 4 + (m : Int)).toNat = 4 * p + m := by omega
    have kc := hkc.2 p m (by omega) (by omega)
    -- what is kept is right
    have setl : ∀ J : Nat → Nat → Int, FrY I J → rKc J → (∀ x, J 41 x = I 41 x ∧ J 42 x = I 42 x) → J 43 (4 * p + m) = cdC (I 53 p) (pBs I m p) → K 64 [some (vR 0), none, some (vI (m : Int)), none, some (vR g), some (vI ((p : Int) * 4 + (m : Int)))] [] (sh, J, L) (0, 0) := by
      intro J F kJ q41 e43
      have eJ : ∀ x, (x ≤ 23 ∨ 77 ≤ x) → J x = I x := fun x hx => by
        funext y
        exact F x y (by simp <;> omega) (by simp <;> omega)
      have hh := M.2
      have sJ : sameLM I J 3 4 5 h := ⟨eJ _ (by omega), eJ _ (by omega), eJ _ (by omega), eJ _ (by omega), eJ _ (by omega), eJ _ (by omega), eJ _ (by omega)⟩
      have bd := bsS_bd (may := bMay (I 44 0) (vW I) (I 53 p)) (E := fun c => evL (I 44 0) (I 47 m - 1) (vF I) (vM I m) (colP (I 44 0) (vS I m) (vOn I m)) (bTw (I 44 0) (vW I) (I 47 m) (I 53 p) c) (I 44 3) (I 44 4) (I 44 5) 0) (if I 53 p = 1 then 8 else 64)
      have bd' : -1 ≤ pBs I m p ∧ pBs I m p < ((if I 53 p = 1 then 8 else 64 : Nat) : Int) := bd
      obtain ⟨d1, d2⟩ := cdC_L (P := ((I 44 0).toNat : Int)) (D := ((I 47 m).toNat : Int)) (wd := I 5) hb.2 bd'.1 bd'.2
      refine B_X11_pitch_64 hK hs (b79 := by omega) (r79 := by rw [tm]; exact s9) (b86 := by omega) (kh4_2 := hg1) (k := ?_)
      rw [ti, e43]
      refine s_settle hs A M hg1 g0 (hL.eq sJ) (hM.eq sJ) (by rw [eJ g (by omega)]; exact g1) hb.2 d2 (fun J2 F2 c2 => ?_)
      refine B_X11_pitch_90 hK (k := ?_)
      refine B_X11_pitch_115 hK (k := k J2 (F.t F2.y) (kJ.k F2) (fun x => ⟨by rw [F2 41 x (by simp) (by simp)]; exact (q41 x).1, by rw [F2 42 x (by simp) (by simp)]; exact (q41 x).2⟩) ?_)
      rw [sJ.2.2.1, d1] at c2
      rw [← raw_is ok lm mm h0 hm hp]
      unfold rwC rawL
      rw [if_neg (by omega), if_pos hb.1, Int.add_zero]
      rw [← bs_is ok lm mm h0 hm] at c2
      exact c2
    refine B_X11_pitch_14 hK hs (kh3_0 := hg1) (b33 := by omega) (n35a := by
      rw [ti]
      rcases kc with x | ⟨-, x⟩
      · rw [x]; decide
      · rw [x]
        have bd := bsS_bd (may := bMay (I 44 0) (vW I) (I 53 p)) (E := fun c => evL (I 44 0) (I 47 m - 1) (vF I) (vM I m) (colP (I 44 0) (vS I m) (vOn I m)) (bTw (I 44 0) (vW I) (I 47 m) (I 53 p) c) (I 44 3) (I 44 4) (I 44 5) 0) (if I 53 p = 1 then 8 else 64)
        have bd' : -1 ≤ pBs I m p ∧ pBs I m p < ((if I 53 p = 1 then 8 else 64 : Nat) : Int) := bd
        have := (cdC_L (P := 0) (D := 0) (wd := I 5) hb.2 bd'.1 bd'.2).2
        omega) (kt := fun z => ?_) (kf := fun z => ?_)
    · rw [ti] at z
      refine setl I Fr.rf hkc (fun x => ⟨rfl, rfl⟩) ?_
      rcases kc with x | ⟨-, x⟩
      · exact absurd x z
      · exact x
    · refine B_X11_pitch_38 hK hs (b59 := by omega) (r59 := by rw [tm]; exact s9) (kh4_1 := hg1) (k := ?_)
      refine s_choice hs A M hg1 g0 hL hM D1 g1 hb.2 (fun J F => ?_)
      rw [bs_is ok lm mm h0 hm]
      refine B_X11_pitch_63 hK hs (b63 := by omega) (k := ?_)
      rw [ti]
      have F2 : FrY I (u2 J 43 (4 * p + m) (cdC (I 53 p) (pBs I m p))) := F.y.u 43 _ _ (by simp)
      have z41 : ∀ x, (u2 J 43 (4 * p + m) (cdC (I 53 p) (pBs I m p))) 41 x = I 41 x := fun x => by rw [uN (by decide)]; exact F 41 x (by simp) (by simp)
      have z42 : ∀ x, (u2 J 43 (4 * p + m) (cdC (I 53 p) (pBs I m p))) 42 x = I 42 x := fun x => by rw [uN (by decide)]; exact F 42 x (by simp) (by simp)
      have z43 : ∀ x, x ≠ 4 * p + m → (u2 J 43 (4 * p + m) (cdC (I 53 p) (pBs I m p))) 43 x = I 43 x := fun x hx => by rw [uK hx]; exact F 43 x (by simp) (by simp)
      have z43a : (u2 J 43 (4 * p + m) (cdC (I 53 p) (pBs I m p))) 43 (4 * p + m) = cdC (I 53 p) (pBs I m p) := uA
      generalize u2 J 43 (4 * p + m) (cdC (I 53 p) (pBs I m p)) = Z at *
      refine setl Z F2 ⟨fun p' m' w hp' hm' hw => ?_, fun p' m' hp' hm' => ?_⟩ (fun x => ⟨z41 x, z42 x⟩) z43a
      · rw [z41, z42, F2.rf.ev, F2.rf.on, F2.rf.at (a := 44) (by omega), F2.rf.at (a := 44) (by omega), F2.rf.at (a := 44) (by omega), F2.rf.at (a := 47) (by omega)]
        exact hkc.1 p' m' w hp' hm' hw
      · rw [F2.rf.bs, F2.rf.at (a := 44) (by omega), F2.rf.at (a := 44) (by omega), F2.rf.at (a := 44) (by omega), F2.rf.at (a := 52) (by omega), F2.rf.at (a := 53) (by omega)]
        by_cases e : p' = p ∧ m' = m
        · obtain ⟨e1, e2⟩ := e
          subst e1 e2
          exact Or.inr ⟨⟨hp, hm, h0, hb.1⟩, z43a⟩
        · rw [z43 _ (by omega)]
          exact hkc.2 p' m' hp' hm'
  · refine hK.1 11 [some (vR 0), some (vI (p : Int)), some (vI (m : Int)), some (vR g), none, none] [vI 0] (sh, I, L) (0, 0) ?_
    refine And.intro (by decide) (And.intro (fun _ => ?_) (fun z => absurd rfl z))
    refine hK.2 [true, false, true, true, true, true] _ _ _ _ _ ?_
    exact B_X11_pitch_93 hK hs (b107 := by omega) (r107 := by rw [tm]; exact s9) (kh3_1 := ck) (k0 := c0) (k1 := c1) (k3 := c3) (k5 := c5) (k10 := c10) (kb := ck)
