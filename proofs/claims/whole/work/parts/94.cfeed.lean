/-! the class feeds a column -/
theorem c_best {m N : Nat} {lab : Nat → Nat} {r w c rm : Nat → Int} (l4 : ∀ i j, i < m → j < m → lab i = lab j → i = j) (l5 : ∀ i, i < m → lab i < 1994) (prs : ∀ i, i < m → prN r (cU (lab i)) ∧ prN r (cV (lab i))) (hN : N = 20 + 2 * rk r 152) (c0 : ∀ l, l < 1994 → 0 ≤ c l) (hall : ∀ l, l < 1994 → 0 < c l → ∃ i, i < m ∧ lab i = l) (q0 : ∀ e, e < 2 * m → 0 ≤ rm e) (q1 : ∀ i, i < m → rm (2 * i) + rm (2 * i + 1) = c (lab i)) (q2 : balanced N m (fun i => nuC r (cU (lab i))) (fun i => nuC r (cV (lab i))) 0 1 (fl rm))
    (hR : ∃ R : Nat → Bool, R 0 = true ∧ R 1 = false ∧ ∀ e, e < 2 * m → 0 < rm e → R (eF (fun i => nuC r (cU (lab i))) (fun i => nuC r (cV (lab i))) e) = true → R (eT (fun i => nuC r (cU (lab i))) (fun i => nuC r (cV (lab i))) e) = true) (hp : ∃ pi, pot (2 * m) (eF (fun i => nuC r (cU (lab i))) (fun i => nuC r (cV (lab i)))) (eT (fun i => nuC r (cU (lab i))) (fun i => nuC r (cV (lab i)))) rm (eC (fun i => w (lab i))) pi) : cBest c w (bal m (fun i => nuC r (cU (lab i))) (fun i => nuC r (cV (lab i))) (fl rm) 1) (sm m (fun i => w (lab i) * fl rm i)) := by
  obtain ⟨R, R0, R1, RR⟩ := hR
  obtain ⟨pi, q3⟩ := hp
  subst hN
  generalize hu : (fun i => nuC r (cU (lab i))) = u at *
  generalize hv : (fun i => nuC r (cV (lab i))) = v at *
  generalize hw : (fun i => w (lab i)) = ww at *
  have u1 : ∀ i, u i = nuC r (cU (lab i)) := fun i => by rw [← hu]
  have v1 : ∀ i, v i = nuC r (cV (lab i)) := fun i => by rw [← hv]
  have w1 : ∀ i, ww i = w (lab i) := fun i => by rw [← hw]
  have ff := fl_bd q0 q1
  obtain ⟨t1, t2, t3, t4⟩ := tr_cert (f := fl rm) (cp := c) (nu := nuC r) (prs := prN r) (s := 0) (t := 1) (N := 20 + 2 * rk r 152) (u := u) (v := v) l5 l4 (fun i hi => ⟨u1 i, (prs i hi).1⟩) (fun i hi => ⟨v1 i, (prs i hi).2⟩) (nuC_inj r) (nuC_lt r) (Or.inl (by decide)) (Or.inl (by decide)) rfl rfl q2 ff c0 hall
  have open1 : ∀ i, i < m → fl rm i < c (lab i) → 0 < rm (2 * i) := fun i hi hlt => by
    have := q1 i hi
    unfold fl at hlt
    omega
  refine ⟨byLab m lab (fl rm), fun x => R (nuC r x), fun x => pi (nuC r x), t1, R0, R1, t3 (fun a b _ => R (nuC r a) = true → R (nuC r b) = true) (fun i hi hlt => ?_), t4 (fun a b _ => R (nuC r b) = true → R (nuC r a) = true) (fun i hi hlt => ?_), t2.symm, t3 (fun a b l => pi (nuC r b) ≤ pi (nuC r a) + w l) (fun i hi hlt => ?_), t4 (fun a b l => pi (nuC r a) + w l ≤ pi (nuC r b)) (fun i hi hlt => ?_), ?_⟩
  · have h1 := RR (2 * i) (by omega) (open1 i hi hlt)
    rw [(e_ev u v ww i).1, (e_ev u v ww i).2.1, u1, v1] at h1
    exact h1
  · have h1 := RR (2 * i + 1) (by omega) hlt
    rw [(e_od u v ww i).1, (e_od u v ww i).2.1, u1, v1] at h1
    exact h1
  · have h1 := q3 (2 * i) (by omega) (open1 i hi hlt)
    rw [(e_ev u v ww i).1, (e_ev u v ww i).2.1, (e_ev u v ww i).2.2, u1, v1, w1] at h1
    exact h1
  · have h1 := q3 (2 * i + 1) (by omega) hlt
    rw [(e_od u v ww i).1, (e_od u v ww i).2.1, (e_od u v ww i).2.2, u1, v1, w1] at h1
    show pi (nuC r (cU (lab i))) + w (lab i) ≤ pi (nuC r (cV (lab i)))
    omega
  · exact (byLab_sum l5 w).symm
theorem c_men {m : Nat} {lab : Nat → Nat} {r c : Nat → Int} (l4 : ∀ i j, i < m → j < m → lab i = lab j → i = j) (l5 : ∀ i, i < m → lab i < 1994) (prs : ∀ i, i < m → prN r (cU (lab i)) ∧ prN r (cV (lab i))) (hM : ∀ x, x < 10 → 0 ≤ c (8 + x) ∧ c (8 + x) ≤ 99) : sm m (fun i => if nuC r (cV (lab i)) = 1 then c (lab i) else 0) ≤ 999 := by
  have a : sm m (fun i => if nuC r (cV (lab i)) = 1 then c (lab i) else 0) ≤ sm m (fun i => (fun l => if 8 ≤ l ∧ l < 18 then c l else 0) (lab i)) := by
    apply sm_le
    intro i hi
    by_cases q : nuC r (cV (lab i)) = 1
    · rw [if_pos q]
      have e : cV (lab i) = 1 := nuC_inj r _ _ (prs i hi).2 (Or.inl (by decide)) (by rw [q]; rfl)
      have e2 : 8 ≤ lab i ∧ lab i < 18 := by
        have := l5 i hi
        unfold cV at e
        repeat' split at e
        all_goals omega
      show c (lab i) ≤ if 8 ≤ lab i ∧ lab i < 18 then c (lab i) else 0
      rw [if_pos e2]
      exact Int.le_refl _
    · rw [if_neg q]
      show 0 ≤ if 8 ≤ lab i ∧ lab i < 18 then c (lab i) else 0
      split
      · have := hM (lab i - 8) (by omega)
        rw [show 8 + (lab i - 8) = lab i by omega] at this
        omega
      · omega
  have b := sm_lab (G := fun l => if 8 ≤ l ∧ l < 18 then c l else 0) l5 l4 (fun l _ => by
    show 0 ≤ if 8 ≤ l ∧ l < 18 then c l else 0
    split
    · have := hM (l - 8) (by omega)
      rw [show 8 + (l - 8) = l by omega] at this
      omega
    · omega)
  have d : sm 1994 (fun l => if 8 ≤ l ∧ l < 18 then c l else 0) = sm 10 (fun x => c (8 + x)) := by
    rw [show (1994 : Nat) = 8 + (10 + 1976) from rfl, sm_split, sm_split]
    rw [sm_zero' (n := 8) (fun i hi => if_neg (by omega)), sm_zero' (n := 1976) (fun i hi => if_neg (by omega))]
    rw [sm_congr (n := 10) (g := fun x => c (8 + x)) (fun i hi => by rw [if_pos (by omega)])]
    omega
  have e : sm 10 (fun x => c (8 + x)) ≤ sm 10 (fun _ => 99) := sm_le (fun i hi => (hM i hi).2)
  have f : sm 10 (fun _ => 99) = 990 := by decide
  have ab := Int.le_trans a b
  omega
theorem s_allMen {sh : oS} {I : Nat → Nat → Int} {L : Nat → Nat → Int64} {Q : oQ} {h D : Nat} (A : MA sh h) (hm : mHas I h D) (k : Q (some (vI (sm D (I (h + 1))))) (sh, I, L)) : T_X6_allMen [vR h] (sh, I, L) Q := by
  refine And.intro (Nat.le_of_ble_eq_true rfl) (fun K hK => ?_)
  have hD := hm.1
  have hD2 := hm.2.1
  refine B_X6_allMen_0 hK (k := ?_)
  have lp : ∀ (d i : Nat), i + d = D → K 4 [some (vR h), some (vI (sm i (I (h + 1)))), some (vI (i : Int))] [] (sh, I, L) (0, 0) := by
    intro d
    induction d with
    | zero =>
      intro i hi
      refine B_X6_allMen_4 hK (Ah0 := A.1) (n9a := by omega) (n9b := by omega) (kt := fun _ => ?_) (kf := fun z => absurd (by omega) z)
      rw [show i = D by omega]
      exact B_X6_allMen_27 hK (k := k)
    | succ d ih =>
      intro i hi
      refine B_X6_allMen_4 hK (Ah0 := A.1) (n9a := by omega) (n9b := by omega) (kt := fun z => absurd z (by omega)) (kf := fun _ => ?_)
      refine B_X6_allMen_12 hK (Ah0 := A.1) (b18 := by omega) (k := ?_)
      rw [Int.toNat_natCast]
      exact ih (i + 1) (by omega)
  exact lp D 0 (by omega)
/-- a land in the class's memory -/
def lHas (I : Nat → Nat → Int) (hl hf hw P : Nat) : Prop := I hl 0 = (P : Int) ∧ (1 ≤ P ∧ P ≤ 8) ∧ (0 ≤ I hl 3 ∧ I hl 3 ≤ 100) ∧ (0 ≤ I hl 4 ∧ I hl 4 ≤ 9) ∧ (0 ≤ I hl 5 ∧ I hl 5 ≤ 10) ∧ (∀ p, p < P → 0 ≤ I hf p ∧ I hf p ≤ 1009) ∧ ∀ p, p < P → I hw p = 0 ∨ I hw p = 1
def LA (sh : oS) (hl hf hw : Nat) : Prop := LandAt sh hl hf hw ∧ ((hl = 3 ∧ hf = 4 ∧ hw = 5) ∨ (hl = 6 ∧ hf = 7 ∧ hw = 8))
abbrev FrF (I J : Nat → Nat → Int) : Prop := Fr [29, 30, 32, 33, 34, 35, 36, 37, 38, 39, 40] [(31, 9), (31, 10), (31, 11), (31, 12), (31, 13), (24, 4), (24, 5)] I J
theorem cap_bd {I : Nat → Nat → Int} {hl hf hw hm P D n : Nat} {col pl fr to : Nat → Int} {so : Int} (h : lHas I hl hf hw P) (hM : mHas I hm D) (hn : n ≤ 40) (l : Nat) : 0 ≤ capJ P ((D : Int) - 1) (I hf) (I (hm + 1)) col n pl fr to (I hl 3) (I hl 4) (I hl 5) so l ∧ capJ P ((D : Int) - 1) (I hf) (I (hm + 1)) col n pl fr to (I hl 3) (I hl 4) (I hl 5) so l ≤ 100000 := by
  obtain ⟨-, -, h3, -, -, h6, -⟩ := h
  exact capJ_bd (fun p hp => by have := h6 p hp; omega) (fun u hu => hM.2.2.2.1 u (by omega)) (by omega) hn l
theorem cap_men {P last : Int} {F men col : Nat → Int} {n : Nat} {pl fr to : Nat → Int} {bk bd kp so : Int} {x : Nat} (hx : x < 10) : capJ P last F men col n pl fr to bk bd kp so (8 + x) = MJ last men x := by
  unfold capJ cC
  rw [if_neg (by omega), if_pos (by omega), show 8 + x - 8 = x by omega]
set_option maxHeartbeats 4000000 in
theorem s_cfeed {sh : oS} {I : Nat → Nat → Int} {L : Nat → Nat → Int64} {Q : oQ} (hs : Sh sh) {hl hf hw hm P D : Nat} (A : LA sh hl hf hw) (M : MA sh hm) {l : List stT} {way so : Int} (hL : lHas I hl hf hw P) (hks : I hl 5 ≤ 9 ∨ so = 0) (hM : mHas I hm D) (hD1 : 1 ≤ D) (hst : cSt I l) (hn : l.length ≤ 30) (ho : stOK P D l) (hso : 0 ≤ so ∧ so ≤ 9)
    (k : ∀ J, FrF I J → (J 24 4, J 24 5) = evL P ((D : Int) - 1) (I hf) (I (hm + 1)) (colP P (I (hm + 2)) way) l (I hl 3) (I hl 4) (I hl 5) so → ((0 ≤ J 24 4 ∧ J 24 4 ≤ 990) ∧ 0 ≤ J 24 5 ∧ J 24 5 ≤ 13860) → Q none (sh, J, L)) : T_X2_feed [vR 24, vR hl, vR hm, vI way, vI so] (sh, I, L) Q := by
  refine And.intro (Nat.le_of_ble_eq_true rfl) (fun K hK => ?_)
  have hhm := M.2
  have D10 := hM.2.1
  obtain ⟨l2, hls, pl2, -⟩ := hst
  have hn2 : l2.length ≤ 30 := by rw [pl2.length_eq]; exact hn
  have ho2 : stOK P D l2 := ho.pm pl2.symm
  rw [← evL_pm pl2] at k
  generalize hcol : colP P (I (hm + 2)) way = col at k
  have cb : ∀ u, 0 ≤ col u ∧ col u ≤ 7 := fun u => by
    have := colP_bd (P := P) (S := I (hm + 2)) (way := way) (by have := hL.2.1; omega) u
    have := hL.2.1
    rw [← hcol]
    omega
  refine B_X2_feed_0 hK hs (k := ?_)
  refine s_cclear hs (Or.inr rfl) (fun J1 F1 n1 z1 z2 z3 => ?_)
  have F1' : FrF I J1 := F1.mono (by decide) (by decide)
  have e1 : ∀ h x, h ≠ 31 → h ≠ 36 → J1 h x = I h x := fun h x h1 h2 => F1 h x (by simpa using h2) (by simp <;> omega)
  have lf : hl ≠ 31 ∧ hl ≠ 36 ∧ hf ≠ 31 ∧ hf ≠ 36 ∧ hw ≠ 31 ∧ hw ≠ 36 := by have := A.2; omega
  obtain ⟨y1, y2, y3, y4, y5, y6, y7⟩ := id hL
  have eM1 : J1 (hm + 1) = I (hm + 1) := by funext x; exact e1 _ x (by omega) (by omega)
  have eM2 : J1 (hm + 2) = I (hm + 2) := by funext x; exact e1 _ x (by omega) (by omega)
  have eF : J1 hf = I hf := by funext x; exact e1 _ x (by omega) (by omega)
  have hM1 : mHas J1 hm D := by
    unfold mHas
    rw [e1 hm 0 (by omega) (by omega), e1 hm 1 (by omega) (by omega), eM1, eM2]
    exact hM
  refine B_X2_feed_10 hK hs (k := ?_)
  generalize hr : rJ P ((D : Int) - 1) l2.length (fun i => (stG l2 i).1) (fun i => (stG l2 i).2.1) (fun i => (stG l2 i).2.2) (I hl 3) (I hl 4) so = r
  generalize hc : capJ P ((D : Int) - 1) (I hf) (I (hm + 1)) col l2.length (fun i => (stG l2 i).1) (fun i => (stG l2 i).2.1) (fun i => (stG l2 i).2.2) (I hl 3) (I hl 4) (I hl 5) so = c
  have r0 : ∀ j, 0 ≤ r j := fun j => by rw [← hr]; exact rJ_nn y3.1 j
  have cbd : ∀ x, 0 ≤ c x ∧ c x ≤ 100000 := fun x => by rw [← hc]; exact cap_bd hL hM (by omega) x
  have cme : ∀ x, x < 10 → c (8 + x) = MJ ((D : Int) - 1) (I (hm + 1)) x := fun x hx => by rw [← hc]; exact cap_men hx
  refine s_clay hs A.1 (by have := A.2; omega) M (P := P) (D := D) (l := l2) (col := col) (r := r) (c := c) (w := cW col) (pr := 1) (by rw [e1 hl 0 (by omega) (by omega)]; exact y1) y2 (by rw [e1 hl 3 (by omega) (by omega)]; omega) (by rw [e1 hl 4 (by omega) (by omega)]; omega) (by rw [e1 hl 5 (by omega) (by omega)]; exact y5) (by rw [e1 hl 5 (by omega) (by omega)]; exact hks) hM1 hD1 ⟨by rw [e1 25 3 (by decide) (by decide)]; exact hls.1, fun i hi => by
    unfold cAt
    rw [e1 26 i (by decide) (by decide), e1 27 i (by decide) (by decide), e1 28 i (by decide) (by decide)]
    exact hls.2 i hi⟩ hn2 ho2 hso n1 z3 (by rw [eM2]; exact hcol.symm) (by rw [e1 hl 3 (by omega) (by omega), e1 hl 4 (by omega) (by omega)]; exact hr.symm) (by rw [e1 hl 3 (by omega) (by omega), e1 hl 4 (by omega) (by omega), e1 hl 5 (by omega) (by omega), eM1, eF]; exact hc.symm) (Or.inl ⟨rfl, rfl⟩) (fun J2 m lab F2 c2 L2 m2 => ?_)
  rw [e1 hl 5 (by omega) (by omega)] at L2
  refine B_X2_feed_19 hK (k := ?_)
  have F12 : FrF I J2 := F1'.tr F2 (by decide) (by decide) (by decide) (by decide)
  have z1' : J2 31 11 = 0 := by rw [F2 31 11 (by decide) (by decide)]; exact z1
  have z2' : J2 31 12 = 0 := by rw [F2 31 12 (by decide) (by decide)]; exact z2
  have z3' : J2 31 13 = 1 := by rw [F2 31 13 (by decide) (by decide)]; exact z3
  -- all that are to eat
  have days : ∀ (d x : Nat) (J : Nat → Nat → Int) (m3 : Nat) (lab3 : Nat → Nat), x + d = D → FrF I J → (J 31 11 = 0 ∧ J 31 12 = 0 ∧ J 31 13 = 1) → cLb J m3 (20 + 2 * rk r 152) lab3 r (cW col) c (Sov P ((x : Int) - 1) r (twJ so) (eaJ ((D : Int) - 1) (I hl 5) col) 152) → m3 ≤ 1264 + x → K 22 [some (vR 24), none, some (vR hm), none, none, some (vI (x : Int))] [] (sh, J, L) (0, 0) := by
    intro d
    induction d with
    | zero =>
      intro x J m3 lab3 hd FJ zz L3 hm3
      have : x = D := by omega
      subst this
      have eh : J hm 0 = (x : Int) := by rw [FJ hm 0 (by simp <;> omega) (by simp <;> omega)]; exact hM.1
      refine B_X2_feed_22 hK (Ah2 := M.1) (n28a := by omega) (n28b := by omega) (kt := fun _ => ?_) (kf := fun y => absurd (by omega) y)
      refine B_X2_feed_58 hK hs (k := ?_)
      obtain ⟨g1, g2, g3, g4, g5, g6⟩ := L3
      have prs : ∀ i, i < m3 → prN r (cU (lab3 i)) ∧ prN r (cV (lab3 i)) := fun i hi => Sov_pr (g2 i hi)
      have rk2 := rk_le r 152
      have fl0 : ∀ i, i < m3 → fl (J 33) i = 0 := fun i hi => (g6 i hi).2
      have bal0 : ∀ y, bal m3 (fun i => nuC r (cU (lab3 i))) (fun i => nuC r (cV (lab3 i))) (fl (J 33)) y = 0 := fun y => sm_zero' (fun i hi => by rw [fl0 i hi]; split <;> split <;> rfl)
      have rm0 : ∀ e, e < 2 * m3 → 0 ≤ J 33 e := fun e he => by
        have a := g6 (e / 2) (by omega)
        have b := cbd (lab3 (e / 2))
        rcases e_cases e with q | q <;> (rw [← q] at a; omega)
      refine s_cfill hs (N := 20 + 2 * rk r 152) (cp := fun i => c (lab3 i)) (by omega) (fun i hi => ⟨nuC_lt r _ (prs i hi).1, nuC_lt r _ (prs i hi).2⟩) (fun i hi => by have := cW_bd (fun u _ => cb u) (g5 i hi); omega) (fun i hi => by have := (cbd (lab3 i)).2; omega) (c_men g4 g5 prs (fun y hy => by
        rw [cme y hy]
        unfold MJ
        split
        · exact hM.2.2.2.1 y (by omega)
        · omega)) ⟨Fr.rf, g1, rm0, fun i hi => by have := g6 i hi; dsimp only; omega, fun n _ _ _ => bal0 n, by rw [bal0]; exact zz.1, by rw [zz.2.1]; symm; exact sm_zero' (fun i hi => by rw [fl0 i hi, Int.mul_zero])⟩ ⟨fun _ => 0, fun e he hre => ?_⟩ (by omega) (fun J4 h4 hp4 hR4 => ?_)
      · have a := g6 (e / 2) (by omega)
        rcases e_cases e with q | q
        · have e1 := e_ev (fun i => nuC r (cU (lab3 i))) (fun i => nuC r (cV (lab3 i))) (fun i => cW col (lab3 i)) (e / 2)
          rw [← q] at e1
          have := cW_bd (fun u _ => cb u) (g5 (e / 2) (by omega))
          show (0 : Int) ≤ 0 + eC (fun i => cW col (lab3 i)) e
          rw [e1.2.2]; omega
        · rw [← q] at a; omega
      obtain ⟨F4, n4, q0, q1, q2, q3, q4⟩ := h4
      have best := c_best (w := cW col) (c := c) g4 g5 prs rfl (fun y _ => (cbd y).1) (fun y hy hcy => g3 y (by
        rw [← hc] at hcy
        unfold capJ at hcy
        have := cC_S hy hcy
        rw [hr] at this
        exact this)) q0 q1 q2 hR4 hp4
      rw [← q3, ← q4] at best
      have F14 : FrF I J4 := FJ.tr F4 (by decide) (by decide) (by decide) (by decide)
      refine B_X2_feed_65 hK (Ah2 := M.1) (k := ?_)
      have eM1' : J4 (hm + 1) = I (hm + 1) := by funext y; exact F14 _ y (by simp <;> omega) (by simp <;> omega)
      have hM4 : mHas J4 hm x := by
        unfold mHas
        rw [F14 hm 0 (by simp <;> omega) (by simp <;> omega), F14 hm 1 (by simp <;> omega) (by simp <;> omega), eM1', show J4 (hm + 2) = I (hm + 2) from by funext y; exact F14 _ y (by simp <;> omega) (by simp <;> omega)]
        exact hM
      refine s_allMen M hM4 ?_
      rw [eM1']
      refine B_X2_feed_70 hK hs (k := ?_)
      have hv := bV_is best
      have t1 := cBest_14 best (fun y hy => cW_bd (fun u _ => cb u) hy) (fun y hy => by unfold cW; rw [if_pos hy])
      have t2 := cBest_men best
      have t3 : sm 10 (fun u => c (8 + u)) = sm x (I (hm + 1)) := by
        rw [sm_congr (n := 10) (g := fun u => MJ ((x : Int) - 1) (I (hm + 1)) u) (fun u hu => cme u hu)]
        rw [show (10 : Nat) = x + (10 - x) by omega, sm_split, sm_zero' (n := 10 - x) (fun i hi => by unfold MJ; exact if_neg (by omega)), Int.add_zero]
        exact sm_congr (fun i hi => by unfold MJ; exact if_pos (by omega))
      rw [t3] at t2
      have sb := sm_crude (n := x) (f := I (hm + 1)) (b := 99) (fun i hi => hM.2.2.2.1 i hi)
      refine k _ ((F14.u 24 4 _ (by simp)).u 24 5 _ (by simp)) ?_ ?_
      · rw [uK (by decide), uA, uA]
        unfold evL capL
        rw [hc, hv, show ((x : Int) - 1 + 1).toNat = x by omega]
      · rw [uK (by decide), uA, uA]
        have : (x : Int) * 99 ≤ 990 := by omega
        omega
    | succ d ih =>
      intro x J m3 lab3 hd FJ zz L3 hm3
      have eh : J hm 0 = (D : Int) := by rw [FJ hm 0 (by simp <;> omega) (by simp <;> omega)]; exact hM.1
      have x10 : x < 10 := by omega
      refine B_X2_feed_22 hK (Ah2 := M.1) (n28a := by omega) (n28b := by omega) (kt := fun y => absurd y (by omega)) (kf := fun _ => ?_)
      refine B_X2_feed_31 hK hs (Ah2 := M.1) (b47 := by omega) (k := ?_)
      refine s_ledge hs L3 (by omega) (8 + x) (by omega) ?_ (by rw [(c_da x10).1, nuc_sm r (by omega)]; omega) (by rw [(c_da x10).2, nuc_sm r (by decide)]; rfl) (by rw [(c_da x10).1, nuc_sm r (by omega)]; omega) (by rw [(c_da x10).2, nuc_sm r (by decide)]; decide) ?_ (by rw [zz.2.2]; exact Or.inl ⟨rfl, cW_z _ (by omega)⟩) (S' := Sov P (((x + 1 : Nat) : Int) - 1) r (twJ so) (eaJ ((D : Int) - 1) (I hl 5) col) 152) (fun y => ?_) (fun J5 F5 L5 => ?_)
      · rintro (y | y | y)
        · omega
        · omega
        · have := y.1.1
          omega
      · rw [cme x x10, Int.toNat_natCast, FJ (hm + 1) x (by simp <;> omega) (by simp <;> omega)]
        unfold MJ
        rw [if_pos (by omega)]
      · constructor
        · rintro (y1 | y1 | y1)
          · exact Or.inl (Or.inl y1)
          · rcases Nat.lt_or_ge (y - 8) x with q | q
            · exact Or.inl (Or.inr (Or.inl ⟨y1.1, y1.2.1, by omega⟩))
            · exact Or.inr (by omega)
          · exact Or.inl (Or.inr (Or.inr y1))
        · rintro ((y1 | y1 | y1) | y1)
          · exact Or.inl y1
          · exact Or.inr (Or.inl ⟨y1.1, y1.2.1, by omega⟩)
          · exact Or.inr (Or.inr y1)
          · exact Or.inr (Or.inl ⟨by omega, by omega, by omega⟩)
      · refine B_X2_feed_52 hK (k := ?_)
        exact ih (x + 1) J5 _ _ (by omega) (FJ.tr F5 (by decide) (by decide) (by decide) (by decide)) ⟨by rw [F5 31 11 (by decide) (by decide)]; exact zz.1, by rw [F5 31 12 (by decide) (by decide)]; exact zz.2.1, by rw [F5 31 13 (by decide) (by decide)]; exact zz.2.2⟩ L5 (by omega)
  exact days D 0 J2 m lab (by omega) F12 ⟨z1', z2', z3'⟩ L2 (by omega)
