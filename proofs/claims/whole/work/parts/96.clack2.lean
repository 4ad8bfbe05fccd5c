/-! the class: the first day on which too many lack, day by day -/
theorem capL_pm {P last : Int} {F men col : Nat → Int} {l m : List stT} {bk bd kp so : Int} (h : l.Perm m) : capL P last F men col l bk bd kp so = capL P last F men col m bk bd kp so := by
  unfold capL capJ
  have : rJ P last l.length (fun i => (stG l i).1) (fun i => (stG l i).2.1) (fun i => (stG l i).2.2) bk bd so = rJ P last m.length (fun i => (stG m i).1) (fun i => (stG m i).2.1) (fun i => (stG m i).2.2) bk bd so := by
    funext j
    unfold rJ bkc
    rw [sm_pm (fun s => if s.1 = ((j / 19 : Nat) : Int) ∧ s.2.1 - so + bd ≤ ((j % 19 : Nat) : Int) - 9 ∧ ((j % 19 : Nat) : Int) - 9 ≤ s.2.2 then 1 else 0) h]
  rw [this]
/-- how many lack up to a day -/
noncomputable def lkC (P : Int) (F men col : Nat → Int) (l : List stT) (bk bd kp : Int) (d : Nat) : Int := sm (d + 1) men - mV (capL P (d : Int) F men col l bk bd kp 0)
def lkR (f : Nat → Int) (D : Nat) (bear r : Int) : Prop := (∃ d : Nat, d < D ∧ r = (d : Int) ∧ bear < f d ∧ ∀ d', d' < d → f d' ≤ bear) ∨ (r = -1 ∧ ∀ d, d < D → f d ≤ bear)
set_option maxHeartbeats 4000000 in
theorem s_cfirstLack {sh : oS} {I : Nat → Nat → Int} {L : Nat → Nat → Int64} {Q : oQ} (hs : Sh sh) {hl hf hw hm P D : Nat} (A : LA sh hl hf hw) (M : MA sh hm) {l : List stT} {way bear : Int} (hL : lHas I hl hf hw P) (hM : mHas I hm D) (hD1 : 1 ≤ D) (hst : cSt I l) (hn : l.length ≤ 30) (ho : stOK P D l) (hbe : inR bear)
    (k : ∀ J (r : Int), FrF I J → lkR (lkC P (I hf) (I (hm + 1)) (colP P (I (hm + 2)) way) l (I hl 3) (I hl 4) (I hl 5)) D bear r → Q (some (vI r)) (sh, J, L)) : T_X2_firstLack [vR 24, vR hl, vR hm, vI way, vI bear] (sh, I, L) Q := by
  refine And.intro (Nat.le_of_ble_eq_true rfl) (fun K hK => ?_)
  have hhm := M.2
  have D10 := hM.2.1
  obtain ⟨l2, hls, pl2, -⟩ := hst
  have hn2 : l2.length ≤ 30 := by rw [pl2.length_eq]; exact hn
  have ho2 : stOK P D l2 := ho.pm pl2.symm
  generalize hcol : colP P (I (hm + 2)) way = col at k
  have hlk : lkC P (I hf) (I (hm + 1)) col l (I hl 3) (I hl 4) (I hl 5) = lkC P (I hf) (I (hm + 1)) col l2 (I hl 3) (I hl 4) (I hl 5) := by
    funext d
    unfold lkC
    rw [capL_pm pl2]
  rw [hlk] at k
  have cb : ∀ u, 0 ≤ col u ∧ col u ≤ 7 := fun u => by
    have := colP_bd (P := P) (S := I (hm + 2)) (way := way) (by have := hL.2.1; omega) u
    have := hL.2.1
    rw [← hcol]
    omega
  refine B_X2_firstLack_0 hK hs (k := ?_)
  refine s_cclear hs (Or.inl rfl) (fun J1 F1 n1 z1 z2 z3 => ?_)
  have F1' : FrF I J1 := F1.mono (by decide) (by decide)
  have e1 : ∀ h x, h ≠ 31 → h ≠ 36 → J1 h x = I h x := fun h x h1 h2 => F1 h x (by simpa using h2) (by simp <;> omega)
  have lf : hl ≠ 31 ∧ hl ≠ 36 ∧ hf ≠ 31 ∧ hf ≠ 36 ∧ hw ≠ 31 ∧ hw ≠ 36 := by have := A.2; omega
  obtain ⟨y1, y2, y3, y4, y5, y6, y7⟩ := id hL
  have eM1 : J1 (hm + 1) = I (hm + 1) := by funext x; exact e1 _ x (by omega) (by omega)
  have eM2 : J1 (hm + 2) = I (hm + 2) := by funext x; exact e1 _ x (by omega) (by omega)
  have eF : J1 hf = I hf := by funext x; exact e1 _ x (by omega) (by omega)
  have hM1 : mHas J1 hm D := by
    unfold mHas
    rw [e1 hm 0 (by omega) (by omega), e1 hm 1 (by omega) (by omega), eM1, eM2]
    exact hM
  refine B_X2_firstLack_10 hK hs (k := ?_)
  generalize hr : rJ P ((D : Int) - 1) l2.length (fun i => (stG l2 i).1) (fun i => (stG l2 i).2.1) (fun i => (stG l2 i).2.2) (I hl 3) (I hl 4) 0 = r
  generalize hc : capJ P ((D : Int) - 1) (I hf) (I (hm + 1)) col l2.length (fun i => (stG l2 i).1) (fun i => (stG l2 i).2.1) (fun i => (stG l2 i).2.2) (I hl 3) (I hl 4) (I hl 5) 0 = c
  have r0 : ∀ j, 0 ≤ r j := fun j => by rw [← hr]; exact rJ_nn y3.1 j
  have cbd : ∀ x, 0 ≤ c x ∧ c x ≤ 100000 := fun x => by rw [← hc]; exact cap_bd hL hM (by omega) x
  have cme : ∀ x, x < 10 → c (8 + x) = MJ ((D : Int) - 1) (I (hm + 1)) x := fun x hx => by rw [← hc]; exact cap_men hx
  refine s_clay hs A.1 (by have := A.2; omega) M (P := P) (D := D) (l := l2) (so := 0) (col := col) (r := r) (c := c) (w := fun _ => 0) (pr := 0) (by rw [e1 hl 0 (by omega) (by omega)]; exact y1) y2 (by rw [e1 hl 3 (by omega) (by omega)]; omega) (by rw [e1 hl 4 (by omega) (by omega)]; omega) (by rw [e1 hl 5 (by omega) (by omega)]; exact y5) (Or.inr rfl) hM1 hD1 ⟨by rw [e1 25 3 (by decide) (by decide)]; exact hls.1, fun i hi => by
    unfold cAt
    rw [e1 26 i (by decide) (by decide), e1 27 i (by decide) (by decide), e1 28 i (by decide) (by decide)]
    exact hls.2 i hi⟩ hn2 ho2 (by decide) n1 z3 (by rw [eM2]; exact hcol.symm) (by rw [e1 hl 3 (by omega) (by omega), e1 hl 4 (by omega) (by omega)]; exact hr.symm) (by rw [e1 hl 3 (by omega) (by omega), e1 hl 4 (by omega) (by omega), e1 hl 5 (by omega) (by omega), eM1, eF]; exact hc.symm) (Or.inr ⟨rfl, rfl⟩) (fun J2 m lab F2 c2 L2 m2 => ?_)
  rw [e1 hl 5 (by omega) (by omega)] at L2
  refine B_X2_firstLack_18 hK (k := ?_)
  have F12 : FrF I J2 := F1'.tr F2 (by decide) (by decide) (by decide) (by decide)
  have z1' : J2 31 11 = 0 := by rw [F2 31 11 (by decide) (by decide)]; exact z1
  have z2' : J2 31 12 = 0 := by rw [F2 31 12 (by decide) (by decide)]; exact z2
  have z3' : J2 31 13 = 0 := by rw [F2 31 13 (by decide) (by decide)]; exact z3
  have rk2 := rk_le r 152
  have eC0 : ∀ (lab : Nat → Nat) (e : Nat), eC (fun i => (fun _ : Nat => (0 : Int)) (lab i)) e = 0 := fun lab e => by unfold eC; split <;> rfl
  -- day by day
  have days : ∀ (d x : Nat) (J : Nat → Nat → Int) (m3 : Nat) (lab3 : Nat → Nat), x + d = D → FrF I J → (J 31 12 = 0 ∧ J 31 13 = 0) → cLd J m3 (20 + 2 * rk r 152) lab3 r (fun _ => 0) (Sov P ((x : Int) - 1) r (twJ 0) (eaJ ((D : Int) - 1) (I hl 5) col) 152) → (∀ e, e < 2 * m3 → 0 ≤ J 33 e) → (∀ i, i < m3 → J 33 (2 * i) + J 33 (2 * i + 1) = c (lab3 i)) → balanced (20 + 2 * rk r 152) m3 (fun i => nuC r (cU (lab3 i))) (fun i => nuC r (cV (lab3 i))) 0 1 (fl (J 33)) → J 31 11 = bal m3 (fun i => nuC r (cU (lab3 i))) (fun i => nuC r (cV (lab3 i))) (fl (J 33)) 1 → 0 ≤ J 31 11 → m3 ≤ 1264 + x → (∀ d', d' < x → lkC P (I hf) (I (hm + 1)) col l2 (I hl 3) (I hl 4) (I hl 5) d' ≤ bear) → K 24 [some (vR 24), none, some (vR hm), none, some (vI bear), some (vI (sm x (I (hm + 1)))), some (vI (x : Int))] [] (sh, J, L) (0, 0) := by
    intro d
    induction d with
    | zero =>
      intro x J m3 lab3 hd FJ zz L3 b1 b2 b3 b4 b5 hm3 hle
      have : x = D := by omega
      subst this
      have eh : J hm 0 = (x : Int) := by rw [FJ hm 0 (by simp <;> omega) (by simp <;> omega)]; exact hM.1
      refine B_X2_firstLack_24 hK (Ah2 := M.1) (n30a := by omega) (n30b := by omega) (kt := fun _ => ?_) (kf := fun y => absurd (by omega) y)
      exact B_X2_firstLack_97 hK (k := k J (-1) FJ (Or.inr ⟨rfl, hle⟩))
    | succ d ih =>
      intro x J m3 lab3 hd FJ zz L3 b1 b2 b3 b4 b5 hm3 hle
      have eh : J hm 0 = (D : Int) := by rw [FJ hm 0 (by simp <;> omega) (by simp <;> omega)]; exact hM.1
      have x10 : x < 10 := by omega
      have emx : J (hm + 1) x = I (hm + 1) x := FJ (hm + 1) x (by simp <;> omega) (by simp <;> omega)
      have mx := hM.2.2.2.1 x (by omega)
      refine B_X2_firstLack_24 hK (Ah2 := M.1) (n30a := by omega) (n30b := by omega) (kt := fun y => absurd y (by omega)) (kf := fun _ => ?_)
      refine B_X2_firstLack_33 hK hs (Ah2 := M.1) (b41 := by omega) (k := ?_)
      rw [Int.toNat_natCast, emx]
      refine s_ledge2 hs L3 (by omega) (8 + x) (by omega) ?_ (by rw [(c_da x10).1, nuc_sm r (by omega)]; omega) (by rw [(c_da x10).2, nuc_sm r (by decide)]; rfl) (by rw [(c_da x10).1, nuc_sm r (by omega)]; omega) (by rw [(c_da x10).2, nuc_sm r (by decide)]; decide) (by rw [zz.2]; exact Or.inr ⟨rfl, rfl⟩) (S' := Sov P (((x + 1 : Nat) : Int) - 1) r (twJ 0) (eaJ ((D : Int) - 1) (I hl 5) col) 152) (fun y => ?_) (fun J5 F5 L5 e33 => ?_)
      · rintro (y | y | y)
        · omega
        · omega
        · have := y.1.1
          omega
      · constructor
        · rintro (y1 | y1 | y1)
          · exact Or.inl (Or.inl y1)
          · rcases Nat.lt_or_ge (y - 8) x with q | q
            · exact Or.inl (Or.inr (Or.inl ⟨y1.1, y1.2.1, by omega⟩))
            · exact Or.inr (by omega)
          · exact Or.inl (Or.inr (Or.inr y1))
        · rintro ((y1 | y1 | y1) | y1)
          · exact Or.inl y1
          · exact Or.inr (Or.inl ⟨y1.1, y1.2.1, by omega⟩)
          · exact Or.inr (Or.inr y1)
          · exact Or.inr (Or.inl ⟨by omega, by omega, by omega⟩)
      have cx : c (8 + x) = I (hm + 1) x := by
        rw [cme x x10]
        unfold MJ
        rw [if_pos (by omega)]
      generalize hlab : ex lab3 m3 (8 + x) = lab5 at *
      have lb : ∀ i, i < m3 → lab5 i = lab3 i := fun i hi => by rw [← hlab]; exact ex_ne (by omega)
      have lbm : lab5 m3 = 8 + x := by rw [← hlab]; exact ex_at
      have FJ5 : FrF I J5 := FJ.tr F5 (by decide) (by decide) (by decide) (by decide)
      have r5 : ∀ e, e < 2 * (m3 + 1) → 0 ≤ J5 33 e := fun e he => by
        rw [e33]
        unfold up
        split
        · omega
        · split
          · omega
          · exact b1 e (by omega)
      have cap5 : ∀ i, i < m3 + 1 → J5 33 (2 * i) + J5 33 (2 * i + 1) = c (lab5 i) := fun i hi => by
        rw [e33]
        by_cases q : i = m3
        · rw [q, up_ne (by omega), up_at, up_at, lbm, cx]
          omega
        · rw [up_ne (by omega), up_ne (by omega), up_ne (by omega), up_ne (by omega), lb i (by omega)]
          exact b2 i (by omega)
      have fl5 : ∀ i, i < m3 → fl (J5 33) i = fl (J 33) i := fun i hi => by
        unfold fl
        rw [e33, up_ne (by omega), up_ne (by omega)]
      have fl5m : fl (J5 33) m3 = 0 := by
        unfold fl
        rw [e33, up_at]
      have bal5 : ∀ n, bal (m3 + 1) (fun i => nuC r (cU (lab5 i))) (fun i => nuC r (cV (lab5 i))) (fl (J5 33)) n = bal m3 (fun i => nuC r (cU (lab3 i))) (fun i => nuC r (cV (lab3 i))) (fl (J 33)) n := fun n => bal_ex (fun i hi => ⟨by rw [lb i hi], by rw [lb i hi], fl5 i hi⟩) fl5m n
      obtain ⟨g1, g2, g3, g4, g5⟩ := L5
      have prs : ∀ i, i < m3 + 1 → prN r (cU (lab5 i)) ∧ prN r (cV (lab5 i)) := fun i hi => Sov_pr (g2 i hi)
      have zero : ∀ (f : Nat → Int), sm (m3 + 1) (fun i => (fun _ : Nat => (0 : Int)) (lab5 i) * f i) = 0 := fun f => sm_zero' (fun i _ => by rw [Int.zero_mul])
      refine B_X2_firstLack_66 hK hs (k := ?_)
      refine s_cfill hs (m := m3 + 1) (N := 20 + 2 * rk r 152) (cp := fun i => c (lab5 i)) (by omega) (fun i hi => ⟨nuC_lt r _ (prs i hi).1, nuC_lt r _ (prs i hi).2⟩) (fun i hi => (by decide : (-7 : Int) ≤ 0 ∧ (0 : Int) ≤ 7)) (fun i hi => by have := (cbd (lab5 i)).2; omega) (c_men g4 g5 prs (fun y hy => by
        rw [cme y hy]
        unfold MJ
        split
        · exact hM.2.2.2.1 y (by omega)
        · omega)) ⟨Fr.rf, g1, r5, cap5, fun n hn h0 h1 => by rw [bal5]; exact b3 n hn h0 h1, by rw [bal5, F5 31 11 (by decide) (by decide)]; exact b4, by rw [zero, F5 31 12 (by decide) (by decide)]; exact zz.1⟩ ⟨fun _ => 0, fun e he hre => by rw [eC0 lab5]; exact (by decide : (0 : Int) ≤ 0 + 0)⟩ (by rw [F5 31 11 (by decide) (by decide)]; exact b5) (fun J6 h6 hp6 hR6 => ?_)
      obtain ⟨F6, n6, q0, q1, q2, q3, q4⟩ := h6
      have FJ6 : FrF I J6 := FJ5.tr F6 (by decide) (by decide) (by decide) (by decide)
      have labD : ∀ i, i < m3 + 1 → cDy x c (lab5 i) = c (lab5 i) := fun i hi => by
        unfold cDy
        refine if_neg (fun y => ?_)
        rcases g2 i hi with z | z | z
        · omega
        · omega
        · have := z.1.1
          omega
      have best := c_best (w := fun _ => 0) (c := cDy x c) g4 g5 prs rfl (fun y _ => by
        unfold cDy
        split
        · omega
        · exact (cbd y).1) (fun y hy hcy => g3 y (by
        unfold cDy at hcy
        by_cases q : 8 ≤ y ∧ y < 18 ∧ x < y - 8
        · rw [if_pos q] at hcy
          omega
        · rw [if_neg q, ← hc] at hcy
          unfold capJ at hcy
          have := cC_S hy hcy
          rw [hr] at this
          rcases this with z | z | z
          · exact Or.inl z
          · exact Or.inr (Or.inl ⟨z.1, z.2.1, by omega⟩)
          · exact Or.inr (Or.inr z))) q0 (fun i hi => by rw [labD i hi]; exact q1 i hi) q2 hR6 hp6
      rw [← q3] at best
      have mx6 := best.max
      rw [← hc] at mx6
      have mday := max_day (d := x) (by omega) y3.1 (fun u hu => (hM.2.2.2.1 u hu).1) (fun p hp => (y6 p (by omega)).1) mx6
      have lkx : lkC P (I hf) (I (hm + 1)) col l2 (I hl 3) (I hl 4) (I hl 5) x = sm (x + 1) (I (hm + 1)) - J6 31 11 := by
        unfold lkC capL
        rw [mV_is mday]
      have f0 := bal_le (u := fun i => nuC r (cU (lab5 i))) (v := fun i => nuC r (cV (lab5 i))) (fl_bd q0 q1) 1
      have f1 := c_men (r := r) (c := c) g4 g5 prs (fun y hy => by
        rw [cme y hy]
        unfold MJ
        split
        · exact hM.2.2.2.1 y (by omega)
        · omega)
      have fm := cBest_men best
      have s1 := sm_crude (n := x + 1) (f := I (hm + 1)) (b := 99) (fun i hi => hM.2.2.2.1 i (by omega))
      have s2 : ((x + 1 : Nat) : Int) * 99 ≤ 990 := by omega
      have fup : J6 31 11 ≤ 999 := by rw [q3]; exact Int.le_trans f0 f1
      refine B_X2_firstLack_73 hK hs (n85a := by
        have : sm x (I (hm + 1)) + I (hm + 1) x = sm (x + 1) (I (hm + 1)) := rfl
        omega) (n85b := hbe) (kt := fun y => ?_) (kf := fun y => ?_)
      · refine B_X2_firstLack_91 hK (k := ?_)
        have y' : lkC P (I hf) (I (hm + 1)) col l2 (I hl 3) (I hl 4) (I hl 5) x ≤ bear := by rw [lkx]; exact y
        refine ih (x + 1) J6 (m3 + 1) lab5 (by omega) FJ6 ⟨?_, ?_⟩ ⟨n6, g2, g3, g4, g5⟩ q0 q1 q2 q3 (by omega) (by omega) (fun d' hd' => ?_)
        · rw [q4, zero]
        · rw [F6 31 13 (by decide) (by decide), F5 31 13 (by decide) (by decide)]
          exact zz.2
        · by_cases q : d' = x
          · rw [q]; exact y'
          · exact hle d' (by omega)
      · refine B_X2_firstLack_88 hK (k := k J6 _ FJ6 (Or.inl ⟨x, by omega, rfl, ?_, hle⟩))
        rw [lkx]
        have : sm x (I (hm + 1)) + I (hm + 1) x = sm (x + 1) (I (hm + 1)) := rfl
        omega
  obtain ⟨g1, g2, g3, g4, g5, g6⟩ := L2
  have fl0 : ∀ i, i < m → fl (J2 33) i = 0 := fun i hi => (g6 i hi).2
  have bal0 : ∀ y, bal m (fun i => nuC r (cU (lab i))) (fun i => nuC r (cV (lab i))) (fl (J2 33)) y = 0 := fun y => sm_zero' (fun i hi => by rw [fl0 i hi]; split <;> split <;> rfl)
  refine days D 0 J2 m lab (by omega) F12 ⟨z2', z3'⟩ ⟨g1, g2, g3, g4, g5⟩ (fun e he => ?_) (fun i hi => by have := g6 i hi; omega) (fun n _ _ _ => bal0 n) (by rw [bal0]; exact z1') (by omega) (by omega) (fun d' hd' => absurd hd' (by omega))
  have a := g6 (e / 2) (by omega)
  have b := cbd (lab (e / 2))
  rcases e_cases e with q | q <;> (rw [← q] at a; omega)
