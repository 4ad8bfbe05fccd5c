/-! the class's questions: what bars them, what is kept -/
theorem s_planOf {sh : oS} {I : Nat → Nat → Int} {L : Nat → Nat → Int64} {Q : oQ} (hs : Sh sh) {b hn ht : Nat} {a x : Int} (R : RelX sh I b hn ht a) (hx : inR x) (k1 : ∀ p g : Nat, x = (p : Int) → (p : Int) < I 44 14 → sR sh 10 p = some g → Q (some (vR g)) (sh, I, L)) (k2 : ¬ (0 ≤ x ∧ x < I 44 14) → Q (some vN) (sh, I, L)) : T_X11_planOf [vR 0, vI x] (sh, I, L) Q := by
  refine And.intro (Nat.le_of_ble_eq_true rfl) (fun K hK => ?_)
  obtain ⟨⟨ok, -⟩, -, -, -, ⟨e9, hpl⟩, -⟩ := R
  have o10 := ok.2.2.2.2.2.2.2.2.2.1
  have no : ¬ (0 ≤ x ∧ x < I 44 14) → K 21 [none, none] [] (sh, I, L) (0, 0) := fun z => B_X11_planOf_21 hK (k := B_X11_planOf_22 hK (k := k2 z))
  refine B_X11_planOf_0 hK (n1 := hx) (kt := fun z => no (by omega)) (kf := fun z => ?_)
  refine B_X11_planOf_4 hK hs (n9a := hx) (n9b := by omega) (kt := fun z2 => no (by omega)) (kf := fun z2 => ?_)
  obtain ⟨p, rfl⟩ := Int.eq_ofNat_of_zero_le (show 0 ≤ x by omega)
  obtain ⟨g, s10, -⟩ := hpl p (by omega)
  exact B_X11_planOf_12 hK hs (b17 := by omega) (r17 := by rw [Int.toNat_natCast]; exact s10) (k := B_X11_planOf_22 hK (k := k1 p g rfl (by omega) s10))
theorem s_marchOf {sh : oS} {I : Nat → Nat → Int} {L : Nat → Nat → Int64} {Q : oQ} (hs : Sh sh) {b hn ht : Nat} {a x : Int} (R : RelX sh I b hn ht a) (hx : inR x) (k1 : ∀ m h : Nat, x = (m : Int) → (m : Int) < I 44 8 → sR sh 9 m = some h → mRel sh I m h → Q (some (vR h)) (sh, I, L)) (k2 : ¬ (0 ≤ x ∧ x < I 44 8) → Q (some vN) (sh, I, L)) : T_X11_marchOf [vR 0, vI x] (sh, I, L) Q := by
  refine And.intro (Nat.le_of_ble_eq_true rfl) (fun K hK => ?_)
  obtain ⟨⟨ok, -⟩, -, -, ⟨e8, hma⟩, -⟩ := R
  have o8 := ok.2.2.2.2.2.2.2.1
  have no : ¬ (0 ≤ x ∧ x < I 44 8) → K 21 [none, none] [] (sh, I, L) (0, 0) := fun z => B_X11_marchOf_21 hK (k := B_X11_marchOf_22 hK (k := k2 z))
  refine B_X11_marchOf_0 hK (n1 := hx) (kt := fun z => no (by omega)) (kf := fun z => ?_)
  refine B_X11_marchOf_4 hK hs (n9a := hx) (n9b := by omega) (kt := fun z2 => no (by omega)) (kf := fun z2 => ?_)
  obtain ⟨m, rfl⟩ := Int.eq_ofNat_of_zero_le (show 0 ≤ x by omega)
  obtain ⟨h, s9, mr, -⟩ := hma m (by omega)
  exact B_X11_marchOf_12 hK hs (b17 := by omega) (r17 := by rw [Int.toNat_natCast]; exact s9) (k := B_X11_marchOf_22 hK (k := k1 m h rfl (by omega) s9 mr))
theorem s_refusal {sh : oS} {I : Nat → Nat → Int} {L : Nat → Nat → Int64} {Q : oQ} (hs : Sh sh) {b hn ht : Nat} {a plan march : Int} (R : RelX sh I b hn ht a) (hp : inR plan) (hm : inR march)
    (k : ∀ r, r = barV I plan march (-1) 1 → (r = 0 → ∃ p m : Nat, plan = (p : Int) ∧ march = (m : Int) ∧ (p : Int) < I 44 14 ∧ (m : Int) < I 44 8 ∧ I 44 0 ≠ 0) → Q (some (vI r)) (sh, I, L)) : T_X11_refusal [vR 0, vI plan, vI march] (sh, I, L) Q := by
  refine And.intro (Nat.le_of_ble_eq_true rfl) (fun K hK => ?_)
  have e30 := R.2.2.1.1
  have o0 := R.1.1.1
  have unk : ¬ ((0 ≤ plan ∧ plan < I 44 14) ∧ 0 ≤ march ∧ march < I 44 8) → K 16 [none, none, none] [] (sh, I, L) (0, 0) := fun z =>
    B_X11_refusal_16 hK (k := k (-101) (by unfold barV; rw [if_pos z]) (fun y => absurd y (by decide)))
  refine B_X11_refusal_0 hK hs (k := ?_)
  refine s_planOf hs R hp (fun p g ep hpl s10 => ?_) (fun z => B_X11_refusal_5n hK (k := unk (fun y => z y.1)))
  refine B_X11_refusal_5 hK (k := ?_)
  refine B_X11_refusal_8 hK hs (k := ?_)
  refine s_marchOf hs R hm (fun m h em hml s9 mr => ?_) (fun z => B_X11_refusal_13n hK (k := unk (fun y => z y.2)))
  refine B_X11_refusal_13 hK (k := ?_)
  have both : (0 ≤ plan ∧ plan < I 44 14) ∧ 0 ≤ march ∧ march < I 44 8 := by omega
  refine B_X11_refusal_19 hK hs (n26 := by omega) (kt := fun z => ?_) (kf := fun z => ?_)
  · refine B_X11_refusal_34 hK (k := B_X11_refusal_35 hK (k := k 0 ?_ (fun _ => ⟨p, m, ep, em, hpl, hml, by omega⟩)))
    unfold barV
    rw [if_neg (fun y => y both), if_neg (by omega), if_neg (by omega)]
  · refine B_X11_refusal_29 hK (k := B_X11_refusal_35 hK (k := k (-103) ?_ (fun y => absurd y (by decide))))
    unfold barV
    rw [if_neg (fun y => y both), if_pos (by omega)]
theorem bar1 {I : Nat → Nat → Int} {plan march : Int} : barV I plan march (-1) 1 = 0 ∨ barV I plan march (-1) 1 = -101 ∨ barV I plan march (-1) 1 = -103 := by
  unfold barV
  split
  · exact Or.inr (Or.inl rfl)
  · split
    · exact Or.inr (Or.inr rfl)
    · rw [if_neg (by omega)]; exact Or.inl rfl
/-- one bar more -/
theorem bar_a {I : Nat → Nat → Int} {plan march a : Int} : barV I plan march (-1) a = if barV I plan march (-1) 1 = 0 then (if a = 0 then -102 else 0) else barV I plan march (-1) 1 := by
  unfold barV
  by_cases z : ¬ ((0 ≤ plan ∧ plan < I 44 14) ∧ 0 ≤ march ∧ march < I 44 8)
  · rw [if_pos z, if_pos z, if_neg (by decide)]
  · rw [if_neg z, if_neg z]
    by_cases y : I 44 0 = 0
    · rw [if_pos y, if_pos y, if_neg (by decide)]
    · rw [if_neg y, if_neg y, if_neg (show ¬ (((-1 : Int) ≠ -1 ∧ ¬ (0 ≤ (-1 : Int) ∧ (-1 : Int) ≤ vOn I march.toNat)) ∨ (1 : Int) = 0) by omega), if_pos rfl]
      by_cases x : a = 0
      · rw [if_pos (Or.inr x), if_pos x]
      · rw [if_neg (by omega), if_neg x]
theorem s_hasWay {sh : oS} {I : Nat → Nat → Int} {L : Nat → Nat → Int64} {Q : oQ} {h : Nat} (A : MA sh h) {way : Int} (hw : inR way) (h1 : 0 ≤ I h 1 ∧ I h 1 ≤ 2) (k : ∀ r, (r = 1 ∧ 0 ≤ way ∧ way ≤ fShl 1 (I h 1) - 1) ∨ (r = 0 ∧ ¬ (0 ≤ way ∧ way ≤ fShl 1 (I h 1) - 1)) → Q (some (vI r)) (sh, I, L)) : T_X6_hasWay [vR h, vI way] (sh, I, L) Q := by
  refine And.intro (Nat.le_of_ble_eq_true rfl) (fun K hK => ?_)
  have wb : inR (fShl 1 (I h 1) - 1) := by
    have : I h 1 = 0 ∨ I h 1 = 1 ∨ I h 1 = 2 := by omega
    rcases this with e | e | e <;> rw [e] <;> decide
  have no : ¬ (0 ≤ way ∧ way ≤ fShl 1 (I h 1) - 1) → K 16 [none, none] [] (sh, I, L) (0, 0) := fun z =>
    B_X6_hasWay_16 hK (k := B_X6_hasWay_17 hK (o17 := Or.inl rfl) (k := k 0 (Or.inr ⟨rfl, z⟩)))
  refine B_X6_hasWay_0 hK (n1 := hw) (kt := fun z => no (by omega)) (kf := fun z => ?_)
  refine B_X6_hasWay_4 hK (Ah0 := A.1) (k := ?_)
  refine s_wayOn A ?_
  refine B_X6_hasWay_9 hK (n9a := hw) (n9b := wb) (kt := fun z2 => no (by omega)) (kf := fun z2 => ?_)
  exact B_X6_hasWay_12 hK (k := B_X6_hasWay_17 hK (o17 := Or.inr rfl) (k := k 1 (Or.inl ⟨rfl, by omega, by omega⟩)))
theorem s_wayRef {sh : oS} {I : Nat → Nat → Int} {L : Nat → Nat → Int64} {Q : oQ} (hs : Sh sh) {b hn ht : Nat} {a plan march way : Int} (R : RelX sh I b hn ht a) (hp : inR plan) (hm : inR march) (hw : inR way)
    (k : ∀ r, r = barW I plan march way → (r = 0 → ∃ p m : Nat, plan = (p : Int) ∧ march = (m : Int) ∧ (p : Int) < I 44 14 ∧ (m : Int) < I 44 8 ∧ I 44 0 ≠ 0 ∧ 0 ≤ way ∧ way ≤ vOn I m) → Q (some (vI r)) (sh, I, L)) : T_X11_wayRefusal [vR 0, vI plan, vI march, vI way] (sh, I, L) Q := by
  refine And.intro (Nat.le_of_ble_eq_true rfl) (fun K hK => ?_)
  refine B_X11_wayRefusal_0 hK hs (k := ?_)
  refine s_refusal hs R hp hm (fun r hr hz => ?_)
  have rb := bar1 (I := I) (plan := plan) (march := march)
  rw [← hr] at rb
  refine B_X11_wayRefusal_6 hK (n10 := by omega) (kt := fun z => ?_) (kf := fun z => ?_)
  · obtain ⟨p, m, ep, em, hpl, hml, h0⟩ := hz z
    subst ep em
    obtain ⟨h, s9, mr, -⟩ := R.2.2.2.1.2 m hml
    have o8 := R.1.1.2.2.2.2.2.2.2.1
    have om := R.1.1.2.2.2.2.2.2.2.2.1 m hml
    have eh := mr.2.2.2.1
    refine B_X11_wayRefusal_16 hK hs (b21 := by omega) (r21 := by rw [Int.toNat_natCast]; exact s9) (Aq21 := mr.1.1) (k := ?_)
    refine s_hasWay mr.1 hw (by omega) (fun r2 hr2 => ?_)
    have ev : fShl 1 (I h 1) - 1 = vOn I m := by rw [eh]; rfl
    rw [ev] at hr2
    have bw : barW I (p : Int) (m : Int) way = if 0 ≤ way ∧ way ≤ vOn I m then 0 else -102 := by
      unfold barW barV
      rw [if_neg (fun y => y ⟨by omega, by omega⟩), if_neg h0, Int.toNat_natCast]
      by_cases y : way = -1
      · rw [if_pos y, if_pos (Or.inl ⟨by omega, by omega⟩), if_neg (by omega)]
      · rw [if_neg y]
        by_cases x : 0 ≤ way ∧ way ≤ vOn I m
        · rw [if_neg (fun u => by rcases u with u | u; exact u.2 x; omega), if_pos x]
        · rw [if_pos (Or.inl ⟨y, x⟩), if_neg x]
    refine B_X11_wayRefusal_26 hK (n26 := by omega) (kt := fun z2 => ?_) (kf := fun z2 => ?_)
    · refine B_X11_wayRefusal_33 hK (k := B_X11_wayRefusal_35 hK (k := k (-102) ?_ (fun y => absurd y (by decide))))
      rw [bw, if_neg (by omega)]
    · refine B_X11_wayRefusal_29 hK (k := B_X11_wayRefusal_35 hK (k := k 0 ?_ (fun _ => ⟨p, m, rfl, rfl, hpl, hml, h0, by omega, by omega⟩)))
      rw [bw, if_pos (by omega)]
  · refine B_X11_wayRefusal_13 hK (k := k r ?_ (fun y => absurd y z))
    rw [hr]
    rw [hr] at z
    unfold barW
    unfold barV at z ⊢
    by_cases y : ¬ ((0 ≤ plan ∧ plan < I 44 14) ∧ 0 ≤ march ∧ march < I 44 8)
    · rw [if_pos y, if_pos y]
    · rw [if_neg y] at z ⊢
      rw [if_neg y]
      by_cases x : I 44 0 = 0
      · rw [if_pos x, if_pos x]
      · rw [if_neg x, if_neg (by omega)] at z
        exact absurd rfl z
set_option maxHeartbeats 1000000 in
theorem r_solved {sh : oS} {I : Nat → Nat → Int} {L : Nat → Nat → Int64} {Q : oQ} (hs : Sh sh) {b hn ht m p : Nat} {a way : Int} (R : RelX sh I b hn ht a) (hp : (p : Int) < I 44 14) (hm : (m : Int) < I 44 8) (h0 : I 44 0 ≠ 0) (hw : 0 ≤ way ∧ way ≤ vOn I m)
    (k : ∀ J, FrY I J → RelX sh J b hn ht a → (∀ x, I 41 x ≠ -1 → J 41 x = I 41 x ∧ J 42 x = I 42 x) → (J 41 (16 * p + 4 * m + way.toNat), J 42 (16 * p + 4 * m + way.toNat)) = pEv I m p 0 way (I 47 m - 1) 0 → ((0 ≤ J 41 (16 * p + 4 * m + way.toNat) ∧ J 41 (16 * p + 4 * m + way.toNat) ≤ 990) ∧ 0 ≤ J 42 (16 * p + 4 * m + way.toNat) ∧ J 42 (16 * p + 4 * m + way.toNat) ≤ 13860) → Q (some (vI ((16 * p + 4 * m + way.toNat : Nat) : Int))) (sh, J, L)) : T_X11_solved [vR 0, vI (p : Int), vI (m : Int), vI way] (sh, I, L) Q := by
  refine And.intro (Nat.le_of_ble_eq_true rfl) (fun K hK => ?_)
  obtain ⟨⟨ok, -⟩, -, hld, ⟨-, hma⟩, -, hkc, -⟩ := id R
  have o8 := ok.2.2.2.2.2.2.2.1
  have o10 := ok.2.2.2.2.2.2.2.2.2.1
  have om := ok.2.2.2.2.2.2.2.2.1 m hm
  have on := vOn_bd om.2.1
  obtain ⟨h, s9, mr, -⟩ := hma m hm
  have tm : (m : Int).toNat = m := Int.toNat_natCast m
  obtain ⟨w, rfl⟩ := Int.eq_ofNat_of_zero_le hw.1
  rw [Int.toNat_natCast] at k
  have ei : (((p : Int) * 4 + (m : Int)) * 4 + (w : Int)) = ((16 * p + 4 * m + w : Nat) : Int) := by omega
  refine B_X11_solved_0 hK (k := ?_)
  refine And.intro (Nat.le_of_ble_eq_true rfl) (fun K2 hK2 => ?_)
  refine B_X11_keptAt_0 hK2 (k := ?_)
  rw [ei]
  have kc := hkc.1 p m w (by omega) (by omega) (by omega)
  refine B_X11_solved_6 hK hs (b14 := by omega) (n16a := by rw [Int.toNat_natCast]; omega) (kt := fun z => ?_) (kf := fun z => ?_)
  · rw [Int.toNat_natCast] at z
    refine B_X11_solved_72 hK (k := ?_)
    rcases kc with x | ⟨-, x1, x2⟩
    · exact absurd x z
    · exact k I Fr.rf R (fun x _ => ⟨rfl, rfl⟩) x1 x2
  rw [Int.toNat_natCast] at z
  refine B_X11_solved_19 hK hs (k := ?_)
  refine r_pitch hs R hp hm h0 (fun J1 F1 k1 q1 c1 => ?_)
  have e1 := F1.rf
  have R1 := R.y F1 k1
  have ok1 := R1.1.1
  obtain ⟨h', s9', mr1, -⟩ := R1.2.2.2.1.2 m (by rw [e1.at (by omega)]; exact hm)
  have hh' : h' = h := by rw [s9] at s9'; exact (Option.some.inj s9').symm
  subst hh'
  have lm := R1.2.2.1.mat
  have mm := mr1.mat
  have e47 : J1 47 m = I 47 m := e1.at (by omega)
  have e440 : J1 44 0 = I 44 0 := e1.at (by omega)
  have e448 : J1 44 8 = I 44 8 := e1.at (by omega)
  obtain ⟨hL, eP⟩ := lm.has ok1 (by rw [e440]; exact h0)
  obtain ⟨hM, D1, eD⟩ := mm.has ok1 (by rw [e448]; exact hm)
  have rok := ok1.raw (more := 0) (p := p) (m := m) (by rw [e1.at (by omega)]; exact hp) (by rw [e448]; exact hm) (by rw [e440]; exact h0) (by decide)
  rw [e1.raw] at rok
  refine B_X11_solved_25 hK hs (b38 := by omega) (r38 := by rw [tm]; exact s9) (k := ?_)
  have k5 := lm.2.2.2.1
  have o5 := R1.1.2.1.2.1
  have l30 : (pRaw I m p 0).length ≤ 30 := ok.r30 hp hm h0 ⟨by decide, by have := (ok.2.2.2.2.2.2.2.2.2.2 p hp).1; omega⟩
  refine s_cfeed hs (laT hs) mr1.1 hL (Or.inr rfl) hM D1 c1 l30 (by rw [eP, eD]; exact rok.1) (by decide) (fun J2 F2 v2 r2 => ?_)
  have F02 : FrY I J2 := F1.t F2.k.y
  have e2 := F02.rf
  rw [eD, ← e1.raw m p 0, ev_is ok1 lm mm (by rw [e440]; exact h0) (by rw [e448]; exact hm) (by omega), e1.ev, e47] at v2
  refine B_X11_solved_44 hK hs (b57 := by omega) (k := ?_)
  rw [Int.toNat_natCast]
  refine B_X11_solved_72 hK (k := ?_)
  have F3 : FrY I (u2 (u2 J2 41 (16 * p + 4 * m + w) (J2 24 4)) 42 (16 * p + 4 * m + w) (J2 24 5)) := (F02.u 41 _ _ (by simp)).u 42 _ _ (by simp)
  have z41 : ∀ x, x ≠ 16 * p + 4 * m + w → (u2 (u2 J2 41 (16 * p + 4 * m + w) (J2 24 4)) 42 (16 * p + 4 * m + w) (J2 24 5)) 41 x = I 41 x := fun x hx => by
    rw [uN (by decide), uK hx, F2 41 x (by simp) (by simp)]
    exact (q1 x).1
  have z42 : ∀ x, x ≠ 16 * p + 4 * m + w → (u2 (u2 J2 41 (16 * p + 4 * m + w) (J2 24 4)) 42 (16 * p + 4 * m + w) (J2 24 5)) 42 x = I 42 x := fun x hx => by
    rw [uK hx, uN (by decide), F2 42 x (by simp) (by simp)]
    exact (q1 x).2
  have z41a : (u2 (u2 J2 41 (16 * p + 4 * m + w) (J2 24 4)) 42 (16 * p + 4 * m + w) (J2 24 5)) 41 (16 * p + 4 * m + w) = J2 24 4 := by rw [uN (by decide), uA]
  have z42a : (u2 (u2 J2 41 (16 * p + 4 * m + w) (J2 24 4)) 42 (16 * p + 4 * m + w) (J2 24 5)) 42 (16 * p + 4 * m + w) = J2 24 5 := uA
  have z43 : ∀ x, (u2 (u2 J2 41 (16 * p + 4 * m + w) (J2 24 4)) 42 (16 * p + 4 * m + w) (J2 24 5)) 43 x = J1 43 x := fun x => by
    rw [uN (by decide), uN (by decide), F2 43 x (by simp) (by simp)]
  generalize u2 (u2 J2 41 (16 * p + 4 * m + w) (J2 24 4)) 42 (16 * p + 4 * m + w) (J2 24 5) = Z at *
  have e3 := F3.rf
  have kZ : rKc Z := by
    refine ⟨fun p' m' w' hp' hm' hw' => ?_, fun p' m' hp' hm' => ?_⟩
    · rw [e3.ev, e3.on, e3.at (a := 44) (by omega), e3.at (a := 44) (by omega), e3.at (a := 44) (by omega), e3.at (a := 47) (by omega)]
      by_cases e : 16 * p' + 4 * m' + w' = 16 * p + 4 * m + w
      · have ep : p' = p := by omega
        have em : m' = m := by omega
        have ew : w' = w := by omega
        subst ep em ew
        rw [z41a, z42a]
        exact Or.inr ⟨⟨hp, hm, hw.2, h0⟩, v2, r2⟩
      · rw [z41 _ e, z42 _ e]
        exact hkc.1 p' m' w' hp' hm' hw'
    · have := k1.2 p' m' hp' hm'
      rw [e1.bs, e1.at (a := 44) (by omega), e1.at (a := 44) (by omega), e1.at (a := 44) (by omega), e1.at (a := 52) (by omega), e1.at (a := 53) (by omega)] at this
      rw [z43, e3.bs, e3.at (a := 44) (by omega), e3.at (a := 44) (by omega), e3.at (a := 44) (by omega), e3.at (a := 52) (by omega), e3.at (a := 53) (by omega)]
      exact this
  refine k Z F3 (R.y F3 kZ) (fun x hx => ?_) (by rw [z41a, z42a]; exact v2) (by rw [z41a, z42a]; exact r2)
  by_cases e : x = 16 * p + 4 * m + w
  · rw [e] at hx
    exact absurd (Classical.not_not.1 z) hx
  · exact ⟨z41 x e, z42 x e⟩
