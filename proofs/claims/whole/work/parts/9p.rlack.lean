/-! the class answers: lack, far -/
theorem c_lack {sh : oS} {I : Nat → Nat → Int} {L : Nat → Nat → Int64} {Q : oQ} (hs : Sh sh) {b : Nat} {a plan march way : Int} (R : Rel sh I b a) (hp : inR plan) (hm : inR march) (hw : inR way) (k : ∀ J, Rel sh J b a → rfE I J → Q (some (vI (lakV I plan march way))) (sh, J, L)) : T_X11_lack [vR 0, vI plan, vI march, vI way] (sh, I, L) Q := by
  refine And.intro (Nat.le_of_ble_eq_true rfl) (fun K hK => ?_)
  obtain ⟨hn, ht, R⟩ := R
  refine B_X11_lack_0 hK hs (k := ?_)
  refine s_wayRef hs R hp hm hw (fun r hr hz => ?_)
  have ri : inR r := by rw [hr]; exact barW_in
  unfold lakV at k
  rw [← hr] at k
  refine B_X11_lack_7 hK (n11 := ri) (kt := fun z => ?_) (kf := fun z => ?_)
  rotate_left
  · rw [if_neg z] at k
    exact B_X11_lack_14 hK (k := k I ⟨hn, ht, R⟩ rfl)
  obtain ⟨p, m, e1, e2, hpl, hml, h0, hw2⟩ := hz z
  clear hz
  subst e1 e2
  rw [if_pos z, Int.toNat_natCast, Int.toNat_natCast] at k
  have ok := R.1.1
  have o10 := R.1.1.2.2.2.2.2.2.2.2.2.1
  have o8 := R.1.1.2.2.2.2.2.2.2.1
  have o6 := ok.2.2.2.2.1
  have q53 := (ok.2.2.2.2.2.2.2.2.2.2 p hpl).1
  obtain ⟨h, s9, -⟩ := R.2.2.2.1.2 m hml
  have tm : (m : Int).toNat = m := Int.toNat_natCast m
  refine B_X11_lack_17 hK hs (k := ?_)
  refine r_pitch hs R hpl hml h0 (fun J1 F1 k1 q1 c1 => ?_)
  have R1 := R.y F1 k1
  have e := F1.rf
  obtain ⟨h', s9', mr1, -⟩ := R1.2.2.2.1.2 m (by rw [e.at (by omega)]; exact hml)
  have hh' : h' = h := by rw [s9] at s9'; exact (Option.some.inj s9').symm
  subst hh'
  have ok1 := R1.1.1
  have lm := R1.2.2.1.mat
  have mm := mr1.mat
  have x0 : J1 44 0 = I 44 0 := e.at (by omega)
  have x8 : J1 44 8 = I 44 8 := e.at (by omega)
  have x14 : J1 44 14 = I 44 14 := e.at (by omega)
  have h0' : J1 44 0 ≠ 0 := by omega
  have hm' : (m : Int) < J1 44 8 := by omega
  have hp' : (p : Int) < J1 44 14 := by omega
  obtain ⟨hL, eP⟩ := lm.has ok1 h0'
  obtain ⟨hM, D1, eD⟩ := mm.has ok1 hm'
  rw [← e.raw] at c1
  have rok := ok1.raw (more := 0) (p := p) (m := m) hp' hm' h0' (by decide)
  have l30 : (pRaw J1 m p 0).length ≤ 30 := ok1.r30 hp' hm' h0' ⟨by decide, by rw [e.at (by omega)]; omega⟩
  refine B_X11_lack_23 hK hs (b36 := by omega) (r36 := by rw [tm]; exact s9) (k := ?_)
  have e6 : J1 3 6 = I 44 6 := by rw [R1.2.2.1.2.2.2.2.1]; exact e.at (by omega)
  rw [e6]
  refine s_cfirstLack hs (laT hs) mr1.1 hL hM D1 c1 l30 (by rw [eP, eD]; exact rok.1) (by omega) (fun J2 r2 F2 v2 => ?_)
  have v3 := (v2.cg (fun d hd => lk_is (way := way) hs ok1 lm mm h0' hm' hp' (by decide) hd)).F
  have v4 : r2 = lkF (I 44 6) (fun d : Nat => (pEv I m p 0 way (d : Int) 0).1) (I 47 m).toNat 0 := by
    rw [v3, e.at (a := 47) (by omega)]
    have : (fun d : Nat => (pEv J1 m p 0 way (d : Int) 0).1) = fun d : Nat => (pEv I m p 0 way (d : Int) 0).1 := by
      funext d
      rw [e.ev]
    rw [this]
  have kk := k J2 ⟨hn, ht, R1.y F2.y (F2.kc k1)⟩ (e.t F2.y.rf)
  rw [← v4] at kk
  exact B_X11_lack_48 hK (k := kk)
theorem RelX.sq {sh : oS} {I J : Nat → Nat → Int} {b hn ht : Nat} {a : Int} (h : RelX sh I b hn ht a) (q : ∀ x k, ¬ scr x k → J x k = I x k) : RelX sh J b hn ht a ∧ rfE I J := by
  have e : rfE I J := rfE.of (fun x k c => q x k (by unfold scr; omega))
  refine ⟨h.fr e (h.2.2.2.2.2.1.eq e (fun x => ⟨q 41 x (by unfold scr; omega), q 42 x (by unfold scr; omega), q 43 x (by unfold scr; omega)⟩)) ?_ (fun x k h1 h2 _ _ _ _ => q x k h2), e⟩
  rw [q 0 11 (by unfold scr; omega), e.at (by omega)]
  exact h.2.2.2.2.2.2.1.2
def roadR (I : Nat → Nat → Int) (men : Int) : Nat → Nat → Int := fun h k => if h = 44 then (if k = 8 then 1 else I 44 k) else if h = 47 then I 44 0 - 1 else if h = 50 then 0 else if h = 48 then 1 else if h = 49 then men else I h k
theorem roadR_ok {I : Nat → Nat → Int} {men : Int} (h : mOK I) (h0 : I 44 0 ≠ 0) (hm : 1 ≤ men ∧ men ≤ 99) : mOK (roadR I men) := by
  obtain ⟨h1, h2, h3, h4, h5, h6, h7, h8, h9, h10, h11⟩ := h
  refine ⟨h1, h2, h3, h4, h5, h6, h7, ?_, fun m _ => ?_, h10, h11⟩
  · show (0 : Int) ≤ 1 ∧ (1 : Int) ≤ 4
    decide
  · show (1 ≤ I 44 0 - 1 ∧ I 44 0 - 1 ≤ 10) ∧ ((0 : Int) ≤ 0 ∧ (0 : Int) ≤ 2) ∧ (∀ d : Nat, (d : Int) < I 44 0 - 1 → ((-1 : Int) ≤ 1 ∧ (1 : Int) ≤ 2) ∧ 0 ≤ men ∧ men ≤ 99) ∧ ∀ c : Nat, (c : Int) < 0 → _
    exact ⟨by omega, by decide, fun d hd => ⟨by decide, by omega⟩, fun c hc => by omega⟩
theorem roadR_raw {I : Nat → Nat → Int} {men : Int} {p : Nat} : pRaw (roadR I men) 0 p 0 = faR I p men := by
  have e1 : vM (roadR I men) 0 = faM I men := rfl
  have e2 : vS (roadR I men) 0 = faS I := rfl
  have e3 : vOn (roadR I men) 0 = 0 := by
    show fShl 1 0 - 1 = 0
    decide
  unfold pRaw faR
  rw [e1, e2, e3, Int.add_zero]
  rfl
theorem roadR_ev {I : Nat → Nat → Int} {men : Int} {p : Nat} (d : Nat) : (pEv (roadR I men) 0 p 0 0 (d : Int) 0).1 = faE I p men d := by
  have e1 : vM (roadR I men) 0 = faM I men := rfl
  have e2 : vS (roadR I men) 0 = faS I := rfl
  unfold pEv faE
  rw [e1, e2, roadR_raw]
  rfl
theorem maRoad {sh : oS} (hs : Sh sh) : MA sh 11 := ⟨⟨sk_11 hs, sr_11_2 hs, sr_11_3 hs, sr_11_4 hs, ⟨sk_12 hs, sl_12 hs⟩, ⟨sk_13 hs, sl_13 hs⟩, sk_14 hs, sl_14 hs⟩, Or.inl rfl⟩
set_option maxHeartbeats 2000000 in
theorem c_far {sh : oS} {I : Nat → Nat → Int} {L : Nat → Nat → Int64} {Q : oQ} (hs : Sh sh) {b : Nat} {plan men : Int} (R : Rel sh I b 0) (hp : inR plan) (hm : inR men) (k : ∀ J, Rel sh J b (farA I plan men - I 44 21) → rfE I J → Q (some (vI (farV I plan men))) (sh, J, L)) : T_X11_far [vR 0, vI plan, vI men] (sh, I, L) Q := by
  refine And.intro (Nat.le_of_ble_eq_true rfl) (fun K hK => ?_)
  obtain ⟨hn, ht, R⟩ := R
  have ok := R.1.1
  have o0 := ok.1
  have o10 := R.1.1.2.2.2.2.2.2.2.2.2.1
  have o21 := R.1.2.2.1
  have e11 := R.2.2.2.2.2.2.1.2
  have e30 := R.2.2.1.1
  unfold farV farA at k
  have idn : ∀ {X : Prop} [Decidable X], ¬ X → Rel sh I b ((if X then I 44 21 + 1 else I 44 21) - I 44 21) := fun hx => by
    rw [if_neg hx, Int.sub_self]
    exact ⟨hn, ht, R⟩
  refine B_X11_far_0 hK hs (k := ?_)
  refine s_planOf hs R hp (fun p g ep hpl s10 => ?_) (fun z => ?_)
  rotate_left
  · refine B_X11_far_5n hK (k := B_X11_far_10 hK (k := ?_))
    have kk := k I (idn (fun t => z t.1)) rfl
    rw [if_pos z] at kk
    exact kk
  subst ep
  have gp : 0 ≤ (p : Int) ∧ (p : Int) < I 44 14 := by omega
  have gp2 : ¬ ¬ (0 ≤ (p : Int) ∧ (p : Int) < I 44 14) := fun t => t gp
  rw [if_neg gp2, Int.toNat_natCast] at k
  refine B_X11_far_5 hK (k := ?_)
  refine B_X11_far_13 hK hs (n20 := by omega) (kt := fun z => ?_) (kf := fun z => ?_)
  rotate_left
  · have kk := k I (idn (fun t => t.2.1 (by omega))) rfl
    rw [if_pos (show I 44 0 = 0 by omega)] at kk
    exact B_X11_far_23 hK (k := kk)
  have h0 : I 44 0 ≠ 0 := by omega
  rw [if_neg h0] at k
  have out : ¬ (1 ≤ men ∧ men ≤ 99) → K 37 [none, none, none, none, none] [] (sh, I, L) (0, 0) := fun y => by
    have kk := k I (idn (fun t => y t.2.2.1)) rfl
    rw [if_pos y] at kk
    exact B_X11_far_37 hK (k := kk)
  refine B_X11_far_26 hK (n28a := hm) (kt := fun y => out (by omega)) (kf := fun y => ?_)
  refine B_X11_far_31 hK (n34a := hm) (kt := fun y2 => ?_) (kf := fun y2 => out (by omega))
  have hmen : 1 ≤ men ∧ men ≤ 99 := by omega
  have hmen2 : ¬ ¬ (1 ≤ men ∧ men ≤ 99) := fun t => t hmen
  rw [if_neg hmen2] at k
  refine B_X11_far_40 hK hs (n46a := by omega) (kt := fun t => ?_) (kf := fun t => ?_)
  rotate_left
  · have kk := k I (idn (fun u => u.2.2.2 (by omega))) rfl
    rw [if_pos (show I 44 21 = 30 by omega)] at kk
    exact B_X11_far_49 hK (k := kk)
  rw [if_neg (show ¬ I 44 21 = 30 by omega), if_pos (show (0 ≤ (p : Int) ∧ (p : Int) < I 44 14) ∧ I 44 0 ≠ 0 ∧ (1 ≤ men ∧ men ≤ 99) ∧ I 44 21 ≠ 30 by omega), show I 44 21 + 1 - I 44 21 = 1 by omega] at k
  obtain ⟨P, hP⟩ := Int.eq_ofNat_of_zero_le (show 0 ≤ I 44 0 by omega)
  refine B_X11_far_52 hK hs (k := ?_)
  obtain ⟨R1, E1⟩ := R.five
  generalize u2 I 0 11 (I 0 11 + 1) = J0 at R1 E1
  rw [show I 3 0 - 1 = ((P - 1 : Nat) : Int) by omega]
  refine And.intro (Nat.le_of_ble_eq_true rfl) (fun K2 hK2 => ?_)
  refine B_X6_goForward_0 hK2 (Ah0 := (maRoad hs).1) (k := ?_)
  refine s_addDays (maRoad hs) (D := 0) (n := P - 1) (by simp [u2]) (by omega) (fun J1 F1 d1 d2 d3 => ?_)
  refine B_X6_goForward_17 hK2 (k := ?_)
  have q1 : ∀ x k, ¬ (11 ≤ x ∧ x ≤ 13) → J1 x k = J0 x k := fun x k hx => by
    rw [F1 x k (by simp <;> omega) (by simp <;> omega), uN (by omega), uN (by omega)]
  obtain ⟨R2, E12⟩ := R1.sq (J := J1) (fun x k hx => q1 x k (fun c => hx (by unfold scr; omega)))
  have E2 := E1.t E12
  have okR := roadR_ok ok h0 hmen
  have lm : lMat J1 (roadR I men) 3 4 5 := by
    have a := R2.2.2.1.mat
    unfold lMat at a ⊢
    rw [E2.at (a := 44) (by omega), E2.at (a := 44) (by omega), E2.at (a := 44) (by omega), E2.at (a := 44) (by omega)] at a
    refine ⟨a.1, a.2.1, a.2.2.1, a.2.2.2.1, fun x hx => ?_⟩
    have b2 := a.2.2.2.2 x hx
    rw [E2.at (a := 45) (by omega), E2.at (a := 46) (by omega)] at b2
    exact b2
  have mm : mMat J1 (roadR I men) 11 0 := by
    refine ⟨?_, ?_, fun d hd => ?_⟩
    · show J1 11 0 = I 44 0 - 1
      rw [d1]
      omega
    · show J1 11 1 = 0
      rw [F1 11 1 (by simp) (by simp)]
      simp [u2]
    · have hd : (d : Int) < I 44 0 - 1 := hd
      show J1 12 d = men ∧ J1 13 d = 1
      have e2 : J1 12 = _ := d2
      have e3 : J1 13 = _ := d3
      rw [e2, e3]
      unfold fil
      rw [if_pos (by omega), if_pos (by omega)]
      exact ⟨rfl, rfl⟩
  obtain ⟨g2, s102, pr2, -⟩ := R2.2.2.2.2.1.2 p (by rw [E2.at (by omega)]; exact hpl)
  have gg2 : g2 = g := by rw [s10] at s102; exact (Option.some.inj s102).symm
  subst gg2
  have pk := pr2.k2 E2
  have hp' : (p : Int) < (roadR I men) 44 14 := hpl
  have hm' : ((0 : Nat) : Int) < (roadR I men) 44 8 := by
    show (0 : Int) < 1
    decide
  have h0' : (roadR I men) 44 0 ≠ 0 := h0
  obtain ⟨hL, eP⟩ := lm.has okR h0'
  obtain ⟨hM, D1, eD⟩ := mm.has okR hm'
  have q53 := (ok.2.2.2.2.2.2.2.2.2.2 p hpl).1
  have rok := okR.raw (more := 0) (p := p) (m := 0) hp' hm' h0' (by decide)
  have l30 : (pRaw (roadR I men) 0 p 0).length ≤ 30 := okR.r30 hp' hm' h0' ⟨by decide, show I 53 p + 0 ≤ 3 by omega⟩
  have eD2 : ((roadR I men) 47 0).toNat = P - 1 := by
    show (I 44 0 - 1).toNat = P - 1
    omega
  have pall := pitch_all (kind := (roadR I men) 52 p) (k := (roadR I men) 53 p) (n := (roadR I men) 54 p) (T := fun x => (roadR I men) 55 (18 * p + x)) (more := 0) (many := J1 g2 0) (L := L) (Q := fun r mm => K 99 [some (vR 0), none, none, none, none] (r.toList ++ []) mm (0, 0)) hs (laT hs) (maRoad hs) pk hL hM D1 (show J1 g2 0 = I 53 p + 0 by rw [pk.2.1]; omega) (Or.inl rfl) (fun J3 F3 c3 => by
    rw [raw_is okR lm mm h0' hm' hp'] at c3
    have s := F3.lm (laT hs) (maRoad hs)
    have lm3 := lm.eq s.1 s.2.1 s.2.2.1
    have mm3 := mm.eq s.2.2.2.1 s.2.2.2.2.1 s.2.2.2.2.2.1
    refine B_X11_far_99 hK hs (k := ?_)
    refine s_cfirstLack hs (laT hs) (maRoad hs) (hL.eq s) (hM.eq s) D1 c3 l30 (by rw [eP, eD]; exact rok.1) (by decide) (fun J4 r4 F4 v4 => ?_)
    have v5 := v4.cg (fun d hd => (lk_is (way := 0) hs okR lm3 mm3 h0' hm' hp' (by decide) hd).trans (roadR_ev d))
    rw [eD2] at v5
    have mono := lk_mono (way := 0) hs (P := ((roadR I men) 44 0).toNat) (D := ((roadR I men) 47 0).toNat) (F := J3 4) (men := J3 12) (S := J3 13) (bk := J3 3 3) (bd := J3 3 4) (kp := J3 3 5) (l := pRaw (roadR I men) 0 p 0) (hL.eq s).2.1 (hM.eq s).2.1 (by have := (hL.eq s).2.2.1; omega) (by have := (hL.eq s).2.2.2.1; omega) (by have := (hL.eq s).2.2.2.2.1; omega) (fun x hx => by have := (hL.eq s).2.2.2.2.2.1 x hx; omega) (hM.eq s).2.2.1 (hM.eq s).2.2.2.1 (by omega) (by rw [eP, eD]; exact rok.1)
    rw [eD2] at mono
    have fe : ∀ d, d < P - 1 → lkC ((roadR I men) 44 0).toNat (J3 4) (J3 12) (colP (((roadR I men) 44 0).toNat : Int) (J3 13) 0) (pRaw (roadR I men) 0 p 0) (J3 3 3) (J3 3 4) (J3 3 5) d = faE I p men d := fun d hd => (lk_is (way := 0) hs okR lm3 mm3 h0' hm' hp' (by decide) (by rw [eD2]; exact hd)).trans (roadR_ev d)
    have nn : ∀ d, d < P - 1 → 0 ≤ faE I p men d := fun d hd => by rw [← fe d hd]; exact mono.1 d hd
    have mo : ∀ d, d + 1 < P - 1 → faE I p men (d + 1) = 0 → faE I p men d = 0 := fun d hd hz => by
      rw [← fe d (by omega)]
      exact mono.2 d hd (by rw [fe (d + 1) hd]; exact hz)
    have R4 := (R2.y F3.y (R2.2.2.2.2.2.1.k F3)).y F4.y (F4.kc (R2.2.2.2.2.2.1.k F3))
    have kk := k J4 ⟨hn, ht, R4⟩ ((E2.t F3.y.rf).t F4.y.rf)
    rw [show (I 44 0 - 1).toNat = P - 1 by omega] at kk
    rcases v5 with ⟨d, w1, w2, w3, w4⟩ | ⟨w1, w2⟩
    · have up : ∀ j, d + j < P - 1 → faE I p men (d + j) ≠ 0 := by
        intro j
        induction j with
        | zero =>
          intro _
          have : faE I p men (d + 0) = faE I p men d := rfl
          omega
        | succ j ih =>
          intro hj hz
          exact ih (by omega) (mo (d + j) (by omega) hz)
      rw [frF_is (x := d) (P - 1) (by omega) (fun y hy => by have := w4 y hy; have := nn y (by omega); omega) (fun y y1 y2 => by have := up (y - d) (by omega); rw [show d + (y - d) = y by omega] at this; exact this), ← w2] at kk
      refine B_X11_far_116 hK (n121a := by omega) (kt := fun _ => ?_) (kf := fun u => absurd (by omega) u)
      exact B_X11_far_134 hK (k := B_X11_far_136 hK (k := kk))
    · rw [frF_is (x := P - 1) (P - 1) (Nat.le_refl _) (fun y hy => by have := w2 y hy; have := nn y hy; omega) (fun y y1 y2 => by omega)] at kk
      refine B_X11_far_116 hK (n121a := by omega) (kt := fun u => absurd w1 u) (kf := fun _ => ?_)
      refine B_X11_far_124 hK hs (k := B_X11_far_136 hK (k := ?_))
      have e110 : J4 11 0 = ((P - 1 : Nat) : Int) := by
        rw [F4 11 0 (by simp) (by simp), F3 11 0 (by simp) (by simp), d1]
        omega
      rw [e110]
      exact kk)
  obtain ⟨c0, c1, c3, c5, c10, ck⟩ := pall
  exact B_X11_far_79 hK hs (kh3_0 := ck) (k0 := c0) (k1 := c1) (k3 := c3) (k5 := c5) (k10 := c10) (kb := ck)
