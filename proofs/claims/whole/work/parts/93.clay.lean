/-! the class lays its net -/
abbrev FrN (I J : Nat → Nat → Int) : Prop := Fr [29, 30, 32, 33, 34, 35, 36] [(31, 9), (31, 10)] I J
set_option maxHeartbeats 4000000 in
theorem s_clay {sh : oS} {I : Nat → Nat → Int} {L : Nat → Nat → Int64} {Q : oQ} (hs : Sh sh) {hl hf hw hm P D : Nat} (A : LandAt sh hl hf hw) (hA : (hl = 3 ∧ hf = 4) ∨ (hl = 6 ∧ hf = 7)) (M : MA sh hm) {l : List stT} {way so pr : Int} {col r c w : Nat → Int} (hP : I hl 0 = (P : Int)) (hP2 : 1 ≤ P ∧ P ≤ 8) (hbk : 0 ≤ I hl 3 ∧ I hl 3 ≤ 1000) (hbd : 0 ≤ I hl 4 ∧ I hl 4 ≤ 1000) (hkp : 0 ≤ I hl 5 ∧ I hl 5 ≤ 10) (hks : I hl 5 ≤ 9 ∨ so = 0) (hM : mHas I hm D) (hD1 : 1 ≤ D) (hst : cLs I l) (hn : l.length ≤ 30) (ho : stOK P D l) (hso : 0 ≤ so ∧ so ≤ 9) (hnet : ∀ u v w, nNet I 0 20 u v w) (hpr : I 31 13 = pr)
    (hcol : col = colP P (I (hm + 2)) way) (hr : r = rJ P ((D : Int) - 1) l.length (fun i => (stG l i).1) (fun i => (stG l i).2.1) (fun i => (stG l i).2.2) (I hl 3) (I hl 4) so) (hc : c = capJ P ((D : Int) - 1) (I hf) (I (hm + 1)) col l.length (fun i => (stG l i).1) (fun i => (stG l i).2.1) (fun i => (stG l i).2.2) (I hl 3) (I hl 4) (I hl 5) so) (hww : (pr = 1 ∧ w = cW col) ∨ (pr = 0 ∧ w = fun _ => 0))
    (k : ∀ J m lab, FrN I J → (∀ d, d < D → J 29 d = col d) → cLb J m (20 + 2 * rk r 152) lab r w c (Sov P (-1) r (twJ so) (eaJ ((D : Int) - 1) (I hl 5) col) 152) → m ≤ 1264 → Q none (sh, J, L)) : T_X2_lay [vR 24, vR hl, vR hm, vI way, vI so] (sh, I, L) Q := by
  refine And.intro (Nat.le_of_ble_eq_true rfl) (fun K hK => ?_)
  have hhm := M.2
  have D10 := hM.2.1
  have cb : ∀ u, 0 ≤ col u ∧ col u ≤ 7 := fun u => by
    have := colP_bd (P := P) (S := I (hm + 2)) (way := way) (by omega) u
    rw [hcol]
    omega
  have r0 : ∀ j, 0 ≤ r j := fun j => by rw [hr]; exact rJ_nn hbk.1 j
  have r1 : ∀ j, r j ≤ 40000 := fun j => by rw [hr]; exact rJ_le hbk (by omega) j
  have wl : ∀ (x : Nat) (y : Int), cW col x = y → (pr = 1 ∧ w x = y) ∨ (pr = 0 ∧ w x = 0) := fun x y hy => by
    rcases hww with ⟨a, b⟩ | ⟨a, b⟩
    · exact Or.inl ⟨a, by rw [b]; exact hy⟩
    · exact Or.inr ⟨a, by rw [b]⟩
  have rkb : ∀ j, j ≤ 152 → rk r j ≤ 152 := fun j hj => by have := rk_le r j; omega
  refine B_X2_lay_0 hK hs (Ah1 := A) (Ah2 := M.1) (k := ?_)
  rw [hP]
  refine s_cwalk hs M hM (by omega) (fun J1 F1 c1 => ?_)
  rw [← hcol] at c1
  have e1 : ∀ h x, h ≠ 29 → J1 h x = I h x := fun h x hh => F1 h x (by simpa using hh) (by simp)
  refine B_X2_lay_13 hK hs (Ah1 := A) (k := ?_)
  rw [e1 hl 4 (by omega)]
  refine s_countB hs (l := l) ⟨by rw [e1 25 3 (by decide)]; exact hst.1, fun i hi => by
    unfold cAt
    rw [e1 26 i (by decide), e1 27 i (by decide), e1 28 i (by decide)]
    exact hst.2 i hi⟩ hn ho (by omega) (by omega) hbd hso (fun J2 F2 c2 => ?_)
  have FN2 : FrN I J2 := F1.tr F2 (by decide) (by decide) (by decide) (by decide)
  have rbk : ∀ j, j < 152 → J2 30 j * I hl 3 = r j := fun j hj => by
    rw [c2 j hj, hr]
    unfold rJ
    by_cases z : ((j / 19 : Nat) : Int) < (P : Int) ∧ ((j % 19 : Nat) : Int) - 9 ≤ (D : Int) - 1
    · rw [if_pos z]
    · rw [if_neg z]
      have : bkc l.length (fun i => (stG l i).1) (fun i => (stG l i).2.1) (fun i => (stG l i).2.2) ((j / 19 : Nat) : Int) (((j % 19 : Nat) : Int) - 9) (I hl 4) so = 0 := by
        unfold bkc
        refine sm_zero' (fun i hi => if_neg (fun y => z ?_))
        have ok := ho _ (stG_m hi)
        dsimp only at y
        omega
      rw [this, Int.zero_mul]
  have rneg : I hl 5 = 10 → ∀ j, j < 152 → 0 < r j → 9 ≤ j % 19 := fun h10 j hj hrj => by
    have so0 : so = 0 := by omega
    apply Classical.byContradiction
    intro z
    have : r j = 0 := by
      rw [hr]
      unfold rJ
      split
      · have : bkc l.length (fun i => (stG l i).1) (fun i => (stG l i).2.1) (fun i => (stG l i).2.2) ((j / 19 : Nat) : Int) (((j % 19 : Nat) : Int) - 9) (I hl 4) so = 0 := by
          unfold bkc
          refine sm_zero' (fun i hi => if_neg (fun y => ?_))
          have ok := ho _ (stG_m hi)
          dsimp only at y
          omega
        rw [this, Int.zero_mul]
      · rfl
    omega
  refine B_X2_lay_23 hK (k := ?_)
  -- what does not change
  have land : ∀ {J : Nat → Nat → Int}, FrN I J → (∀ x, J hl x = I hl x) ∧ (∀ x, J hf x = I hf x) ∧ J hm 0 = (D : Int) ∧ J 31 13 = pr := fun {J} F => by
    refine ⟨fun x => F hl x (by simp <;> omega) (by simp <;> omega), fun x => F hf x (by simp <;> omega) (by simp <;> omega), by rw [F hm 0 (by simp <;> omega) (by simp <;> omega)]; exact hM.1, by rw [F 31 13 (by decide) (by decide)]; exact hpr⟩
  have stp : ∀ {J J' : Nat → Nat → Int}, FrN I J → FrE J J' → FrN I J' := fun a b => a.tr b (by decide) (by decide) (by decide) (by decide)
  have stp2 : ∀ {J : Nat → Nat → Int} {z : Int}, FrN I J → FrN I (u2 J 31 9 z) := fun a => a.u 31 9 _ (by simp)
  -- ovens
  have ovens : ∀ (d j : Nat) (J : Nat → Nat → Int) (m : Nat) (lab : Nat → Nat), j + d = 152 → FrN I J → (∀ d, d < D → J 29 d = col d) → (∀ x, x < 152 → J 30 x * I hl 3 = r x) → cLb J m (20 + 2 * rk r j) lab r w c (Sov P (-1) r (twJ so) (eaJ ((D : Int) - 1) (I hl 5) col) j) → m ≤ cwN j → K 64 [some (vR 24), some (vR hl), some (vR hm), none, some (vI so), some (vI (j : Int)), none, none, none, none, none, none, none, none] [] (sh, J, L) (0, 0) := by
    intro d
    induction d with
    | zero =>
      intro j J m lab hd F cc rr hL hm2
      have : j = 152 := by omega
      subst this
      rw [cwN_152] at hm2
      refine B_X2_lay_64 hK hs (n71a := by omega) (n71b := by rw [sl_30 hs]; decide) (kt := fun _ => ?_) (kf := fun z => absurd (by rw [sl_30 hs]; decide) z)
      exact B_X2_lay_278 hK (k := k J m lab F cc hL hm2)
    | succ d ih =>
      intro j J m lab hd F cc rr hL hm2
      have hj : j < 152 := by omega
      obtain ⟨f1, f2, f3, f4⟩ := land F
      have rj := rr j hj
      have rjb := r1 j
      have rj0 := r0 j
      have cw1 := cwN_mono (show j + 1 ≤ 152 by omega)
      rw [cwN_152] at cw1
      have cwe : cwN (j + 1) = cwN j + 3 + bw (j % 19) := rfl
      refine B_X2_lay_64 hK hs (n71a := by omega) (n71b := by rw [sl_30 hs]; decide) (kt := fun z => absurd z (by rw [sl_30 hs]; omega)) (kf := fun _ => ?_)
      refine B_X2_lay_74 hK hs (b80 := by omega) (Ah1 := A) (n90 := by rw [Int.toNat_natCast, f1, rj]; omega) (kt := fun z => ?_) (kf := fun z => ?_)
      rotate_left
      · rw [Int.toNat_natCast, f1, rj] at z
        have z0 : ¬ 0 < r j := by
          have := Classical.not_not.1 z
          omega
        refine B_X2_lay_93 hK (k := ?_)
        refine B_X2_lay_272 hK (k := ?_)
        refine ih (j + 1) J m lab (by omega) F cc rr ?_ (by omega)
        have e : rk r (j + 1) = rk r j := by simp only [rk, if_neg z0]; rfl
        rw [e]
        exact hL.cg (fun x => (Sov_skip z0 x).symm)
      rw [Int.toNat_natCast, f1, rj] at z
      rw [Int.toNat_natCast, f1, rj]
      have hrp : 0 < r j := by omega
      have rl := rkb j (by omega)
      have rl2 := rk_lt (j := 152) hj hrp
      have rl3 := rkb 152 (Nat.le_refl _)
      have n1 := nuc_in r j
      have cj : c (18 + j) = r j := by
        rw [hc]
        unfold capJ cC
        rw [if_neg (by omega), if_neg (by omega), if_pos (by omega), show 18 + j - 18 = j by omega, hr]
      have cj2 : c (170 + j) = r j := by
        rw [hc]
        unfold capJ cC
        rw [if_neg (by omega), if_neg (by omega), if_neg (by omega), if_pos (by omega), show 170 + j - 170 = j by omega, hr]
      have cj3 : twJ so j = true → c (322 + j) = r j := fun h => by
        rw [hc]
        unfold capJ cC
        rw [if_neg (by omega), if_neg (by omega), if_neg (by omega), if_neg (by omega), if_pos (by omega), show 322 + j - 322 = j by omega, if_pos h, hr]
      have cj4 : ∀ u, u < 10 → eaJ ((D : Int) - 1) (I hl 5) col j u = true → c (474 + 10 * j + u) = r j := fun u hu h => by
        rw [hc]
        unfold capJ cC
        rw [if_neg (by omega), if_neg (by omega), if_neg (by omega), if_neg (by omega), if_neg (by omega), show (474 + 10 * j + u - 474) / 10 = j by omega, show (474 + 10 * j + u - 474) % 10 = u by omega, if_pos h, hr]
      have notS : ∀ l, 18 ≤ l → jOf l = j → ¬ Sov P (-1) r (twJ so) (eaJ ((D : Int) - 1) (I hl 5) col) j l := fun l h1 h2 h3 => by
        have := Sov_lt h3 h1
        omega
      have jo1 : jOf (18 + j) = j := by unfold jOf; rw [if_pos (by omega)]; omega
      have jo2 : jOf (170 + j) = j := by unfold jOf; rw [if_neg (by omega), if_pos (by omega)]; omega
      have jo3 : jOf (322 + j) = j := by unfold jOf; rw [if_neg (by omega), if_neg (by omega), if_pos (by omega)]; omega
      have jo4 : ∀ u, u < 10 → jOf (474 + 10 * j + u) = j := fun u hu => by unfold jOf; rw [if_neg (by omega), if_neg (by omega), if_neg (by omega)]; omega
      have td : ((j : Int).tdiv 19) = ((j / 19 : Nat) : Int) := by
        rw [Int.tdiv_eq_ediv_of_nonneg (by omega)]
        omega
      have tm : ((j : Int).tmod 19) = ((j % 19 : Nat) : Int) := by
        rw [Int.tmod_eq_emod_of_nonneg (by omega)]
        omega
      refine B_X2_lay_96 hK hs (n100a := by omega) (k := ?_)
      rw [td, tm]
      refine s_addNode hs hL.1 (by omega) (fun hn1 => ?_)
      have F1' : FrN I (u2 J 31 9 ((20 + 2 * rk r j + 1 : Nat) : Int)) := stp2 F
      have x33 : (u2 J 31 9 ((20 + 2 * rk r j + 1 : Nat) : Int)) 33 = J 33 := u2_oth (by decide)
      have x29 : (u2 J 31 9 ((20 + 2 * rk r j + 1 : Nat) : Int)) 29 = J 29 := u2_oth (by decide)
      have x30 : (u2 J 31 9 ((20 + 2 * rk r j + 1 : Nat) : Int)) 30 = J 30 := u2_oth (by decide)
      generalize u2 J 31 9 ((20 + 2 * rk r j + 1 : Nat) : Int) = X at *
      refine B_X2_lay_120 hK hs (k := ?_)
      refine s_addNode hs hn1 (by omega) (fun hn2 => ?_)
      have F2' : FrN I (u2 X 31 9 ((20 + 2 * rk r j + 1 + 1 : Nat) : Int)) := stp2 F1'
      have y33 : (u2 X 31 9 ((20 + 2 * rk r j + 1 + 1 : Nat) : Int)) 33 = J 33 := by rw [u2_oth (by decide), x33]
      have y29 : (u2 X 31 9 ((20 + 2 * rk r j + 1 + 1 : Nat) : Int)) 29 = J 29 := by rw [u2_oth (by decide), x29]
      have y30 : (u2 X 31 9 ((20 + 2 * rk r j + 1 + 1 : Nat) : Int)) 30 = J 30 := by rw [u2_oth (by decide), x30]
      generalize u2 X 31 9 ((20 + 2 * rk r j + 1 + 1 : Nat) : Int) = Y at *
      have NN : 20 + 2 * rk r j + 1 + 1 = 20 + 2 * rk r (j + 1) := by simp only [rk, if_pos hrp]; omega
      rw [NN] at hn2
      have hL2 : cLb Y m (20 + 2 * rk r (j + 1)) lab r w c (Sov P (-1) r (twJ so) (eaJ ((D : Int) - 1) (I hl 5) col) j) := ⟨hn2, hL.2.1, hL.2.2.1, hL.2.2.2.1, hL.2.2.2.2.1, by rw [y33]; exact hL.2.2.2.2.2⟩
      refine B_X2_lay_129 hK hs (k := ?_)
      refine s_ledge hs hL2 (by omega) (18 + j) (by omega) (notS _ (by omega) jo1) (by rw [(c_in hj).1, n1.1]) (by rw [(c_in hj).2, n1.2]; omega) (by rw [(c_in hj).1, n1.1]; omega) (by rw [(c_in hj).2, n1.2]; omega) cj.symm (by rw [(land F2').2.2.2]; exact wl _ _ (cW_z _ (by omega))) (fun x => Iff.rfl) (fun J3 F3 L3 => ?_)
      have FN3 := stp F2' F3
      refine B_X2_lay_145 hK hs (k := ?_)
      refine s_ledge hs L3 (by omega) (170 + j) (by omega) ?_ (by rw [(c_lo hj).1, nuc_sm r (by omega)]; omega) (by rw [(c_lo hj).2, n1.1]) (by rw [(c_lo hj).1, nuc_sm r (by omega)]; omega) (by rw [(c_lo hj).2, n1.1]; omega) cj2.symm (by rw [(land FN3).2.2.2]; exact wl _ _ (cW_z _ (by omega))) (fun x => Iff.rfl) (fun J4 F4 L4 => ?_)
      · rintro (z5 | z5)
        · exact notS _ (by omega) jo2 z5
        · omega
      have FN4 := stp FN3 F4
      -- the bread
      have bread : ∀ (e u : Nat) (J5 : Nat → Nat → Int) (m5 : Nat) (lab5 : Nat → Nat), u + e = 10 → ((j % 19 : Nat) : Int) - 9 ≤ (u : Int) → j % 19 - 9 ≤ u → ((u : Int) ≤ fMin (((j % 19 : Nat) : Int) - 9 + I hl 5) ((D : Int) - 1) + 1 ∨ u = j % 19 - 9) → FrN I J5 → (∀ d, d < D → J5 29 d = col d) → (∀ x, x < 152 → J5 30 x * I hl 3 = r x) → cLb J5 m5 (20 + 2 * rk r (j + 1)) lab5 r w c (fun l => (((Sov P (-1) r (twJ so) (eaJ ((D : Int) - 1) (I hl 5) col) j l ∨ l = 18 + j) ∨ l = 170 + j) ∨ (twJ so j = true ∧ l = 322 + j)) ∨ ∃ x, x < u ∧ eaJ ((D : Int) - 1) (I hl 5) col j x = true ∧ l = 474 + 10 * j + x) → m5 ≤ cwN j + 3 + (u - (j % 19 - 9)) → K 216 [some (vR 24), some (vR hl), some (vR hm), none, some (vI so), some (vI (j : Int)), some (vI (r j)), some (vI ((j / 19 : Nat) : Int)), some (vI (((j % 19 : Nat) : Int) - 9)), none, some (vI (((20 + 2 * rk r j + 1 : Nat) : Int))), some (vI (fMin (((j % 19 : Nat) : Int) - 9 + I hl 5) ((D : Int) - 1))), some (vI (u : Int)), none] [] (sh, J5, L) (0, 0) := by
        have fi : inR (fMin (((j % 19 : Nat) : Int) - 9 + I hl 5) ((D : Int) - 1)) := by unfold fMin; split <;> omega
        have f9 : fMin (((j % 19 : Nat) : Int) - 9 + I hl 5) ((D : Int) - 1) ≤ (D : Int) - 1 ∧ fMin (((j % 19 : Nat) : Int) - 9 + I hl 5) ((D : Int) - 1) ≤ ((j % 19 : Nat) : Int) - 9 + I hl 5 := by unfold fMin; split <;> omega
        have f9b : ∀ x : Nat, (x : Int) ≤ (D : Int) - 1 → (x : Int) ≤ ((j % 19 : Nat) : Int) - 9 + I hl 5 → (x : Int) ≤ fMin (((j % 19 : Nat) : Int) - 9 + I hl 5) ((D : Int) - 1) := fun x h1 h2 => by unfold fMin; split <;> omega
        have h10 : I hl 5 = 10 → 9 ≤ j % 19 := fun h => rneg h j hj hrp
        generalize fMin (((j % 19 : Nat) : Int) - 9 + I hl 5) ((D : Int) - 1) = fx at *
        -- no day more
        have stop : ∀ (u : Nat) (J5 : Nat → Nat → Int) (m5 : Nat) (lab5 : Nat → Nat), u ≤ 10 → fx < (u : Int) → j % 19 - 9 ≤ u → ((u : Int) ≤ fx + 1 ∨ u = j % 19 - 9) → FrN I J5 → (∀ d, d < D → J5 29 d = col d) → (∀ x, x < 152 → J5 30 x * I hl 3 = r x) → cLb J5 m5 (20 + 2 * rk r (j + 1)) lab5 r w c (fun l => (((Sov P (-1) r (twJ so) (eaJ ((D : Int) - 1) (I hl 5) col) j l ∨ l = 18 + j) ∨ l = 170 + j) ∨ (twJ so j = true ∧ l = 322 + j)) ∨ ∃ x, x < u ∧ eaJ ((D : Int) - 1) (I hl 5) col j x = true ∧ l = 474 + 10 * j + x) → m5 ≤ cwN j + 3 + (u - (j % 19 - 9)) → K 272 [some (vR 24), some (vR hl), some (vR hm), none, some (vI so), some (vI (j : Int)), none, none, none, none, none, none, none, none] [] (sh, J5, L) (0, 0) := by
          intro u J5 m5 lab5 hu10 hfx hu0 hub F5 cc5 rr5 L5 hm5
          refine B_X2_lay_272 hK (k := ?_)
          refine ih (j + 1) J5 m5 lab5 (by omega) F5 cc5 rr5 (L5.cg (fun x => ?_)) ?_
          · rw [Sov_next hj hrp]
            refine or_congr Iff.rfl ?_
            constructor
            · rintro ⟨y, y1, y2, y3⟩
              exact ⟨y, by omega, y2, y3⟩
            · rintro ⟨y, y1, y2, y3⟩
              refine ⟨y, ?_, y2, y3⟩
              have y4 := y2
              simp only [eaJ, decide_eq_true_eq] at y4
              have := f9b y y4.1 (by omega)
              omega
          · rw [cwe]
            unfold bw
            split <;> omega
        intro e
        induction e with
        | zero =>
          intro u J5 m5 lab5 he hu hu0 hub F5 cc5 rr5 L5 hm5
          refine B_X2_lay_216 hK (n220a := by omega) (n220b := fi) (kt := fun z5 => ?_) (kf := fun z5 => absurd (by omega) z5)
          exact stop u J5 m5 lab5 (by omega) z5 hu0 hub F5 cc5 rr5 L5 hm5
        | succ e ihe =>
          intro u J5 m5 lab5 he hu hu0 hub F5 cc5 rr5 L5 hm5
          have hu2 : u < 10 := by omega
          refine B_X2_lay_216 hK (n220a := by omega) (n220b := fi) (kt := fun z5 => ?_) (kf := fun z5 => ?_)
          · exact stop u J5 m5 lab5 (by omega) z5 hu0 hub F5 cc5 rr5 L5 hm5
          have cu := cb u
          have c29 : J5 29 ((u : Int).toNat) = col u := by rw [Int.toNat_natCast]; exact cc5 u (by omega)
          have ab := fAbs_bd (x := col u - ((j / 19 : Nat) : Int)) (a := 8) (by omega)
          have nxt : ∀ (J6 : Nat → Nat → Int) (m6 : Nat) (lab6 : Nat → Nat), FrN I J6 → (∀ d, d < D → J6 29 d = col d) → (∀ x, x < 152 → J6 30 x * I hl 3 = r x) → cLb J6 m6 (20 + 2 * rk r (j + 1)) lab6 r w c (fun l => (((Sov P (-1) r (twJ so) (eaJ ((D : Int) - 1) (I hl 5) col) j l ∨ l = 18 + j) ∨ l = 170 + j) ∨ (twJ so j = true ∧ l = 322 + j)) ∨ ∃ x, x < u + 1 ∧ eaJ ((D : Int) - 1) (I hl 5) col j x = true ∧ l = 474 + 10 * j + x) → m6 ≤ m5 + 1 → K 266 [some (vR 24), some (vR hl), some (vR hm), none, some (vI so), some (vI (j : Int)), some (vI (r j)), some (vI ((j / 19 : Nat) : Int)), some (vI (((j % 19 : Nat) : Int) - 9)), none, some (vI (((20 + 2 * rk r j + 1 : Nat) : Int))), some (vI fx), some (vI (u : Int)), none] [] (sh, J6, L) (0, 0) := by
            intro J6 m6 lab6 F6 cc6 rr6 L6 hm6
            refine B_X2_lay_266 hK (k := ?_)
            exact ihe (u + 1) J6 m6 lab6 (by omega) (by omega) (by omega) (by omega) F6 cc6 rr6 L6 (by omega)
          refine B_X2_lay_223 hK hs (b229 := by omega) (n233 := by rw [c29]; omega) (n245a := by omega) (n245b := by rw [c29]; omega) (kt := fun z6 => ?_) (kf := fun z6 => ?_)
          · rw [c29] at z6
            refine nxt J5 m5 lab5 F5 cc5 rr5 (L5.cg (fun x => or_congr Iff.rfl ?_)) (by omega)
            constructor
            · rintro ⟨y, y1, y2, y3⟩
              exact ⟨y, by omega, y2, y3⟩
            · rintro ⟨y, y1, y2, y3⟩
              refine ⟨y, ?_, y2, y3⟩
              rcases Nat.lt_or_ge y u with q | q
              · exact q
              · rw [show y = u by omega] at y2
                simp only [eaJ, decide_eq_true_eq] at y2
                omega
          · rw [c29] at z6 ⊢
            have hea : eaJ ((D : Int) - 1) (I hl 5) col j u = true := by
              simp only [eaJ, decide_eq_true_eq]
              omega
            refine B_X2_lay_248 hK hs (k := ?_)
            refine s_ledge hs L5 (by omega) (474 + 10 * j + u) (by omega) ?_ (by rw [(c_br hj hu2).1, n1.2]; omega) (by rw [(c_br hj hu2).2, nuc_sm r (by omega)]; omega) (by rw [(c_br hj hu2).1, n1.2]; omega) (by rw [(c_br hj hu2).2, nuc_sm r (by omega)]; omega) (cj4 u hu2 hea).symm (by rw [(land F5).2.2.2]; exact wl _ _ (cW_br _ hj hu2)) (fun x => Iff.rfl) (fun J6 F6 L6 => ?_)
            · rintro ((((z7 | z7) | z7) | z7) | ⟨y, y1, y2, y3⟩)
              · exact notS _ (by omega) (jo4 u hu2) z7
              · omega
              · omega
              · omega
              · omega
            · refine nxt J6 (m5 + 1) _ (stp F5 F6) (fun d hd => by rw [F6 29 d (by decide) (by simp)]; exact cc5 d hd) (fun x hx => by rw [F6 30 x (by decide) (by simp)]; exact rr5 x hx) (L6.cg (fun x => ?_)) (by omega)
              constructor
              · rintro ((z7 | ⟨y, y1, y2, y3⟩) | z7)
                · exact Or.inl z7
                · exact Or.inr ⟨y, by omega, y2, y3⟩
                · exact Or.inr ⟨u, by omega, hea, z7⟩
              · rintro (z7 | ⟨y, y1, y2, y3⟩)
                · exact Or.inl (Or.inl z7)
                · rcases Nat.lt_or_ge y u with q | q
                  · exact Or.inl (Or.inr ⟨y, q, y2, y3⟩)
                  · rw [show y = u by omega] at y3
                    exact Or.inr y3
      -- it begins
      have bread0 : ∀ (J5 : Nat → Nat → Int) (m5 : Nat) (lab5 : Nat → Nat), FrN I J5 → (∀ d, d < D → J5 29 d = col d) → (∀ x, x < 152 → J5 30 x * I hl 3 = r x) → cLb J5 m5 (20 + 2 * rk r (j + 1)) lab5 r w c (fun l => ((Sov P (-1) r (twJ so) (eaJ ((D : Int) - 1) (I hl 5) col) j l ∨ l = 18 + j) ∨ l = 170 + j) ∨ (twJ so j = true ∧ l = 322 + j)) → m5 ≤ cwN j + 3 → K 190 [some (vR 24), some (vR hl), some (vR hm), none, some (vI so), some (vI (j : Int)), some (vI (r j)), some (vI ((j / 19 : Nat) : Int)), some (vI (((j % 19 : Nat) : Int) - 9)), none, some (vI (((20 + 2 * rk r j + 1 : Nat) : Int))), none, none, none] [] (sh, J5, L) (0, 0) := by
        intro J5 m5 lab5 F5 cc5 rr5 L5 hm5
        obtain ⟨g1, g2, g3, g4⟩ := land F5
        refine B_X2_lay_190 hK (Ah1 := A) (Ah2 := M.1) (n203a := by rw [g1]; omega) (n203b := by rw [g3]; omega) (n211a := by omega) (k := ?_)
        rw [g1, g3]
        have fm : fMax (((j % 19 : Nat) : Int) - 9) 0 = ((j % 19 - 9 : Nat) : Int) := by
          unfold fMax
          split <;> omega
        rw [fm]
        refine bread (10 - (j % 19 - 9)) (j % 19 - 9) J5 m5 lab5 (by omega) (by omega) (Nat.le_refl _) (Or.inr rfl) F5 cc5 rr5 (L5.cg (fun x => ?_)) (by omega)
        constructor
        · intro z5
          exact Or.inl z5
        · rintro (z5 | ⟨y, y1, y2, y3⟩)
          · exact z5
          · simp only [eaJ, decide_eq_true_eq] at y2
            have := fAbs_bd (x := col y - ((j / 19 : Nat) : Int)) (a := 8) (by have := cb y; omega)
            omega
      have cc4 : ∀ d, d < D → J4 29 d = col d := fun d hd => by rw [F4 29 d (by decide) (by simp), F3 29 d (by decide) (by simp), y29]; exact cc d hd
      have rr4 : ∀ x, x < 152 → J4 30 x * I hl 3 = r x := fun x hx => by rw [F4 30 x (by decide) (by simp), F3 30 x (by decide) (by simp), y30]; exact rr x hx
      by_cases hp0 : j / 19 = 0
      · have htw : twJ so j = false := by simp only [twJ, decide_eq_false_iff_not]; omega
        refine B_X2_lay_161 hK (n163 := by omega) (kt := fun _ => ?_) (kf := fun z5 => absurd (by omega) z5)
        refine bread0 J4 _ _ FN4 cc4 rr4 (L4.cg (fun x => ?_)) (by omega)
        rw [htw]
        simp
      · refine B_X2_lay_161 hK (n163 := by omega) (kt := fun z5 => absurd z5 (by omega)) (kf := fun _ => ?_)
        refine B_X2_lay_166 hK (n173a := by omega) (n173b := by omega) (kt := fun z5 => ?_) (kf := fun z5 => ?_)
        · have htw : twJ so j = false := by simp only [twJ, decide_eq_false_iff_not]; omega
          refine bread0 J4 _ _ FN4 cc4 rr4 (L4.cg (fun x => ?_)) (by omega)
          rw [htw]
          simp
        · have htw : twJ so j = true := by simp only [twJ, decide_eq_true_eq]; omega
          refine B_X2_lay_176 hK hs (k := ?_)
          refine s_ledge hs L4 (by omega) (322 + j) (by omega) ?_ (by rw [(c_to hj).1, nuc_sm r (by decide)]; rfl) (by rw [(c_to hj).2, n1.1]) (by rw [(c_to hj).1, nuc_sm r (by decide)]; decide) (by rw [(c_to hj).2, n1.1]; omega) (cj3 htw).symm (by rw [(land FN4).2.2.2]; exact wl _ _ (cW_to _ hj)) (fun x => Iff.rfl) (fun J5 F5 L5 => ?_)
          · rintro ((z7 | z7) | z7)
            · exact notS _ (by omega) jo3 z7
            · omega
            · omega
          · refine bread0 J5 _ _ (stp FN4 F5) (fun d hd => by rw [F5 29 d (by decide) (by simp)]; exact cc4 d hd) (fun x hx => by rw [F5 30 x (by decide) (by simp)]; exact rr4 x hx) (L5.cg (fun x => ?_)) (by omega)
            rw [htw]
            simp
  -- flours
  have flours : ∀ (d p : Nat) (J : Nat → Nat → Int) (lab : Nat → Nat), p + d = P → FrN I J → (∀ d, d < D → J 29 d = col d) → (∀ x, x < 152 → J 30 x * I hl 3 = r x) → cLb J p 20 lab r w c (Sov (p : Int) (-1) r (twJ so) (eaJ ((D : Int) - 1) (I hl 5) col) 0) → K 26 [some (vR 24), some (vR hl), some (vR hm), none, some (vI so), some (vI (p : Int)), none, none, none, none, none, none, none, none] [] (sh, J, L) (0, 0) := by
    intro d
    induction d with
    | zero =>
      intro p J lab hd F cc rr hL
      have : p = P := by omega
      subst this
      obtain ⟨f1, f2, f3, f4⟩ := land F
      refine B_X2_lay_26 hK (Ah1 := A) (n32a := by omega) (n32b := by rw [f1]; omega) (kt := fun _ => ?_) (kf := fun z => absurd (by rw [f1]; omega) z)
      refine B_X2_lay_61 hK (k := ?_)
      exact ovens 152 0 J p lab (by omega) F cc rr hL (show p ≤ 8 by omega)
    | succ d ih =>
      intro p J lab hd F cc rr hL
      obtain ⟨f1, f2, f3, f4⟩ := land F
      refine B_X2_lay_26 hK (Ah1 := A) (n32a := by omega) (n32b := by rw [f1]; omega) (kt := fun z => absurd z (by rw [f1]; omega)) (kf := fun _ => ?_)
      refine B_X2_lay_35 hK hs (Ah1 := A) (b50 := by omega) (k := ?_)
      rw [Int.toNat_natCast, f2]
      have hp8 : p < 8 := by omega
      refine s_ledge hs hL (by omega) p (by omega) ?_ (by rw [(c_fl hp8).1, nuc_sm r (by decide)]; rfl) (by rw [(c_fl hp8).2, nuc_sm r (by omega)]; omega) (by rw [(c_fl hp8).1, nuc_sm r (by decide)]; decide) (by rw [(c_fl hp8).2, nuc_sm r (by omega)]; omega) ?_ (by rw [f4]; exact wl _ _ (cW_z _ (by omega))) (S' := Sov ((p + 1 : Nat) : Int) (-1) r (twJ so) (eaJ ((D : Int) - 1) (I hl 5) col) 0) (fun x => ?_) (fun J5 F5 L5 => ?_)
      · rintro (z5 | z5 | z5)
        · omega
        · omega
        · omega
      · rw [hc]
        unfold capJ cC FJ
        rw [if_pos hp8, if_pos (by omega)]
      · constructor
        · rintro (z5 | z5 | z5)
          · rcases Nat.lt_or_ge x p with q | q
            · exact Or.inl (Or.inl ⟨by omega, by omega⟩)
            · exact Or.inr (by omega)
          · omega
          · omega
        · rintro ((z5 | z5 | z5) | z5)
          · exact Or.inl ⟨by omega, by omega⟩
          · omega
          · omega
          · exact Or.inl ⟨by omega, by omega⟩
      · refine B_X2_lay_55 hK (k := ?_)
        exact ih (p + 1) J5 _ (by omega) (stp F F5) (fun d hd => by rw [F5 29 d (by decide) (by simp)]; exact cc d hd) (fun x hx => by rw [F5 30 x (by decide) (by simp)]; exact rr x hx) L5
  refine flours P 0 J2 (fun _ => 0) (by omega) FN2 (fun d hd => by rw [F2 29 d (by decide) (by simp)]; exact c1 d hd) rbk ⟨?_, fun i hi => absurd hi (by omega), fun l hl => ?_, fun i j hi => absurd hi (by omega), fun i hi => absurd hi (by omega), fun i hi => absurd hi (by omega)⟩
  · exact ((hnet _ _ _).fr2 F1 (by decide) (by simp)).fr2 F2 (by decide) (by simp)
  · rcases hl with z5 | z5 | z5
    · omega
    · omega
    · omega
