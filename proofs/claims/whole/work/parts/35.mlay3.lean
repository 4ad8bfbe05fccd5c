theorem bkc_pos {n : Nat} {pl fr to : Nat → Int} {p d bd so : Int} (h : 0 < bkc n pl fr to p d bd so) : ∃ i, i < n ∧ pl i = p ∧ fr i - so + bd ≤ d ∧ d ≤ to i := by
  apply Classical.byContradiction
  intro q
  have : bkc n pl fr to p d bd so = 0 := sm_zero' (fun i hi => if_neg (fun z => q ⟨i, hi, z⟩))
  omega
theorem Sov_far {P last : Int} {r : Nat → Int} {tw : Nat → Bool} {ea : Nat → Nat → Bool} {a : Nat} : ∀ d, (∀ j, a ≤ j → j < a + d → ¬ 0 < r j) → (∀ l, Sov P last r tw ea (a + d) l ↔ Sov P last r tw ea a l) ∧ rk r (a + d) = rk r a
  | 0, _ => ⟨fun _ => Iff.rfl, rfl⟩
  | d + 1, h => by
    obtain ⟨h1, h2⟩ := Sov_far (P := P) (last := last) (tw := tw) (ea := ea) d (fun j q1 q2 => h j q1 (by omega))
    have h3 := h (a + d) (by omega) (by omega)
    refine ⟨fun l => (Sov_skip h3 l).trans (h1 l), ?_⟩
    show rk r (a + d) + (if 0 < r (a + d) then 1 else 0) = _
    rw [if_neg h3, h2]
    rfl
theorem rJ_nn {P last : Int} {n : Nat} {pl fr to : Nat → Int} {bk bd so : Int} (h : 0 ≤ bk) (j : Nat) : 0 ≤ rJ P last n pl fr to bk bd so j := by
  unfold rJ
  split
  · exact Int.mul_nonneg (bkc_bd _ _ _ _ _ _ _ _).1 h
  · omega
theorem rJ_le {P last : Int} {n : Nat} {pl fr to : Nat → Int} {bk bd so : Int} (h : 0 ≤ bk ∧ bk ≤ 1000) (hn : n ≤ 40) (j : Nat) : rJ P last n pl fr to bk bd so j ≤ 40000 := by
  unfold rJ
  split
  · have h1 := bkc_bd n pl fr to ((j / 19 : Nat) : Int) (((j % 19 : Nat) : Int) - 9) bd so
    have h2 : bkc n pl fr to ((j / 19 : Nat) : Int) (((j % 19 : Nat) : Int) - 9) bd so * bk ≤ 40 * 1000 := Int.mul_le_mul (by omega) h.2 h.1 (by decide)
    omega
  · omega
/-- the rooms of the net of a land, stands and a march -/
def capJ (P last : Int) (F men col : Nat → Int) (n : Nat) (pl fr to : Nat → Int) (bk bd kp so : Int) : Nat → Int := cC (FJ P F) (MJ last men) (rJ P last n pl fr to bk bd so) (twJ so) (eaJ last kp col)
set_option maxRecDepth 4000 in
set_option maxHeartbeats 1000000 in
theorem s_layEdges {sh : oS} {I : Nat → Nat → Int} {L : Nat → Nat → Int64} {Q : oQ} (hs : Sh sh) {P n : Nat} {last so : Int} {col : Nat → Int} (hP : I 44 0 = (P : Int)) (hP2 : P ≤ 8) (hn : I 44 43 = (n : Int)) (hn2 : n ≤ 40) (hso : 0 ≤ so ∧ so ≤ 9) (hla : 0 ≤ last ∧ last ≤ 9) (hkp : 0 ≤ I 44 5 ∧ I 44 5 ≤ 1000) (hbd : 0 ≤ I 44 4 ∧ I 44 4 ≤ 1000) (hbk : 0 ≤ I 44 3 ∧ I 44 3 ≤ 1000) (hcol : ∀ u : Nat, (u : Int) ≤ last → I 67 u = col u ∧ 0 ≤ col u ∧ col u ≤ 7) (hA : ∀ i, i < n → inR (I 68 i) ∧ (0 ≤ I 69 i ∧ I 69 i ≤ 1000) ∧ inR (I 70 i))
    (k : ∀ J m lab, Fr [71, 72, 73, 74] [(44, 47)] I J → mLab J m lab (nuM (rJ P last n (I 68) (I 69) (I 70) (I 44 3) (I 44 4) so)) (cW col) (mCP (capJ P last (I 45) (I 66) col n (I 68) (I 69) (I 70) (I 44 3) (I 44 4) (I 44 5) so)) (Sov P last (rJ P last n (I 68) (I 69) (I 70) (I 44 3) (I 44 4) so) (twJ so) (eaJ last (I 44 5) col) 152) → Q none (sh, J, L)) : T_X12_layEdges [vR 44, vI last, vI so] (sh, I, L) Q := by
  refine And.intro (Nat.le_of_ble_eq_true rfl) (fun K hK => ?_)
  generalize hr : rJ P last n (I 68) (I 69) (I 70) (I 44 3) (I 44 4) so = r at k
  generalize hc : capJ P last (I 45) (I 66) col n (I 68) (I 69) (I 70) (I 44 3) (I 44 4) (I 44 5) so = c at k
  have r0 : ∀ j, 0 ≤ r j := fun j => by rw [← hr]; exact rJ_nn hbk.1 j
  have r1 : ∀ j, r j ≤ 40000 := fun j => by rw [← hr]; exact rJ_le hbk hn2 j
  refine B_X12_layEdges_0 hK hs (k := ?_)
  -- the ovens
  have ovens : ∀ (q p : Nat) (J : Nat → Nat → Int) (m : Nat) (lab : Nat → Nat), p + q = P → Fr [71, 72, 73, 74] [(44, 47)] I J → mLab J m lab (nuM r) (cW col) (mCP c) (Sov P last r (twJ so) (eaJ last (I 44 5) col) (19 * p)) → K 72 [some (vR 44), some (vI last), some (vI so), some (vI (20 + 2 * (rk r (19 * p) : Int))), some (vI (p : Int)), none, none] [] (sh, J, L) (0, 0) := by
    intro q
    induction q with
    | zero =>
      intro p J m lab hp hF hJ
      have a1 : J 44 0 = (P : Int) := by rw [hF 44 0 (by decide) (by decide)]; exact hP
      refine B_X12_layEdges_72 hK hs (n78a := by omega) (n78b := by omega) (kt := fun _ => ?_) (kf := fun h => absurd (by omega) h)
      refine B_X12_layEdges_135 hK (k := ?_)
      refine k J m lab hF (hJ.cg (fun x => ?_))
      have h9 := (Sov_far (P := P) (last := last) (r := r) (tw := twJ so) (ea := eaJ last (I 44 5) col) (a := 19 * p) (152 - 19 * p) (fun j q1 q2 => by
        rw [← hr]
        unfold rJ
        rw [if_neg (by omega)]
        omega)).1 x
      rw [show 19 * p + (152 - 19 * p) = 152 by omega] at h9
      exact h9.symm
    | succ q ih =>
      intro p J m lab hp hF hJ
      have a1 : J 44 0 = (P : Int) := by rw [hF 44 0 (by decide) (by decide)]; exact hP
      refine B_X12_layEdges_72 hK hs (n78a := by omega) (n78b := by omega) (kt := fun h => absurd h (by omega)) (kf := fun _ => ?_)
      refine B_X12_layEdges_81 hK (k := ?_)
      have days : ∀ (y t : Nat) (J : Nat → Nat → Int) (m : Nat) (lab : Nat → Nat), (t : Int) + y = last + 10 → Fr [71, 72, 73, 74] [(44, 47)] I J → mLab J m lab (nuM r) (cW col) (mCP c) (Sov P last r (twJ so) (eaJ last (I 44 5) col) (19 * p + t)) → K 85 [some (vR 44), some (vI last), some (vI so), some (vI (20 + 2 * (rk r (19 * p + t) : Int))), some (vI (p : Int)), some (vI ((t : Int) - 9)), none] [] (sh, J, L) (0, 0) := by
        intro y
        induction y with
        | zero =>
          intro t J m lab ht hF hJ
          refine B_X12_layEdges_85 hK (n88a := by omega) (n88b := by omega) (kt := fun _ => ?_) (kf := fun h => absurd (by omega) h)
          refine B_X12_layEdges_129 hK (k := ?_)
          have h9 := Sov_far (P := P) (last := last) (r := r) (tw := twJ so) (ea := eaJ last (I 44 5) col) (a := 19 * p + t) (19 - t) (fun j q1 q2 => by
            rw [← hr]
            unfold rJ
            rw [if_neg (by omega)]
            omega)
          rw [show 19 * p + t + (19 - t) = 19 * (p + 1) by omega] at h9
          rw [← h9.2]
          exact ih (p + 1) J m lab (by omega) hF (hJ.cg (fun x => (h9.1 x).symm))
        | succ y ihy =>
          intro t J m lab ht hF hJ
          have e43 : J 44 43 = (n : Int) := by rw [hF 44 43 (by decide) (by decide)]; exact hn
          have e3 : J 44 3 = I 44 3 := hF 44 3 (by decide) (by decide)
          have e4 : J 44 4 = I 44 4 := hF 44 4 (by decide) (by decide)
          have e5 : J 44 5 = I 44 5 := hF 44 5 (by decide) (by decide)
          have e68 : J 68 = I 68 := by funext x; exact hF 68 x (by decide) (by simp)
          have e69 : J 69 = I 69 := by funext x; exact hF 69 x (by decide) (by simp)
          have e70 : J 70 = I 70 := by funext x; exact hF 70 x (by decide) (by simp)
          have e67 : J 67 = I 67 := by funext x; exact hF 67 x (by decide) (by simp)
          refine B_X12_layEdges_85 hK (n88a := by omega) (n88b := by omega) (kt := fun h => absurd h (by omega)) (kf := fun _ => ?_)
          refine B_X12_layEdges_91 hK hs (k := ?_)
          refine s_bakesAt hs e43 hn2 (by omega) (by omega) (by omega) (by rw [e4]; exact hbd) (by
            intro i hi
            rw [e68, e69, e70]
            have := hA i hi
            exact ⟨this.1, by omega, this.2.2⟩) (fun s0 h0 => ?_)
          rw [e68, e69, e70, e3, e4] at h0
          have ej1 : (19 * p + t) / 19 = p := by omega
          have ej2 : (19 * p + t) % 19 = t := by omega
          have hrj : s0 = r (19 * p + t) := by
            rw [h0, ← hr]
            unfold rJ
            rw [ej1, ej2, if_pos (by omega)]
          have b0 := r0 (19 * p + t)
          have b1 := r1 (19 * p + t)
          refine B_X12_layEdges_100 hK (n104 := by omega) (kt := fun h100 => ?_) (kf := fun h100 => ?_)
          · have hz : ¬ 0 < r (19 * p + t) := by omega
            refine B_X12_layEdges_123 hK (k := ?_)
            have h9 := ihy (t + 1) J m lab (by omega) hF (hJ.cg (fun x => (Sov_skip hz x).symm))
            rw [show 19 * p + (t + 1) = 19 * p + t + 1 by omega, show rk r (19 * p + t + 1) = rk r (19 * p + t) by simp only [rk, if_neg hz]; rfl, show (((t + 1 : Nat) : Int) - 9) = (t : Int) - 9 + 1 by omega] at h9
            exact h9
          · have hz : 0 < r (19 * p + t) := by omega
            refine B_X12_layEdges_107 hK hs (k := ?_)
            rw [hrj]
            refine s_layOven hs (P := P) (last := last) (so := so) (r := r) (c := c) (col := col) (p := p) (t := t) (by omega) (by omega) hso hla (by rw [e5]; exact hkp) (fun u hu => by rw [e67]; exact hcol u hu) hz ?_ ?_ (by rw [e5]; exact hJ) (fun J2 m2 lab2 F2 L2 => ?_)
            · rw [← hc]
              unfold capJ cC
              rw [if_neg (by omega), if_neg (by omega), if_pos (by omega), hr]
              congr 1
              omega
            · intro hp0
              rw [← hr] at hz
              unfold rJ at hz
              rw [ej1, ej2, if_pos (by omega)] at hz
              have hb : 0 < bkc n (I 68) (I 69) (I 70) (p : Int) ((t : Int) - 9) (I 44 4) so := by
                apply Classical.byContradiction
                intro z
                have := (bkc_bd n (I 68) (I 69) (I 70) (p : Int) ((t : Int) - 9) (I 44 4) so).1
                rw [show bkc n (I 68) (I 69) (I 70) (p : Int) ((t : Int) - 9) (I 44 4) so = 0 by omega] at hz
                simp at hz
              obtain ⟨i, i1, -, i3, -⟩ := bkc_pos hb
              have := hA i i1
              omega
            · rw [e5] at L2
              refine B_X12_layEdges_120 hK (k := ?_)
              refine B_X12_layEdges_123 hK (k := ?_)
              have h9 := ihy (t + 1) J2 m2 lab2 (by omega) (hF.tr F2 (by decide) (by decide) (by decide) (by decide)) (by rw [show 19 * p + (t + 1) = 19 * p + t + 1 by omega]; exact L2)
              rw [show 19 * p + (t + 1) = 19 * p + t + 1 by omega, show (20 + 2 * (rk r (19 * p + t + 1) : Int)) = 20 + 2 * (rk r (19 * p + t) : Int) + 2 by simp only [rk, if_pos hz]; omega, show (((t + 1 : Nat) : Int) - 9) = (t : Int) - 9 + 1 by omega] at h9
              exact h9
      have h9 := days (last + 10).toNat 0 J m lab (by omega) hF hJ
      exact h9
  -- the days
  have dys : ∀ (q u : Nat) (J : Nat → Nat → Int) (m : Nat) (lab : Nat → Nat), (u : Int) + q = last + 1 → Fr [71, 72, 73, 74] [(44, 47)] I J → mLab J m lab (nuM r) (cW col) (mCP c) (fun l => (l < 8 ∧ (l : Int) < P) ∨ (8 ≤ l ∧ l < 8 + u)) → K 38 [some (vR 44), some (vI last), some (vI so), some (vI (u : Int)), none, none, none] [] (sh, J, L) (0, 0) := by
    intro q
    induction q with
    | zero =>
      intro u J m lab hu hF hJ
      refine B_X12_layEdges_38 hK (n40a := by omega) (n40b := by omega) (kt := fun _ => ?_) (kf := fun h => absurd (by omega) h)
      refine B_X12_layEdges_66 hK (k := ?_)
      refine ovens P 0 J m lab (by omega) hF (hJ.cg (fun x => ?_))
      constructor
      · rintro (z | z)
        · exact Or.inl z
        · exact Or.inr (Or.inl (by omega))
      · rintro (z | z | ⟨z1, z2⟩)
        · exact Or.inl z
        · exact Or.inr (by omega)
        · omega
    | succ q ih =>
      intro u J m lab hu hF hJ
      have hu2 : u < 10 := by omega
      have t66 : J 66 ((u : Int).toNat) = I 66 u := by rw [Int.toNat_natCast]; exact hF 66 u (by decide) (by simp)
      refine B_X12_layEdges_38 hK (n40a := by omega) (n40b := by omega) (kt := fun h => absurd h (by omega)) (kf := fun _ => ?_)
      refine B_X12_layEdges_43 hK hs (b55 := by omega) (k := ?_)
      rw [t66]
      refine s_medge hs hJ (8 + u) (by omega) (by omega) (by rw [(c_da hu2).1, nu_dy r hu2]; omega) (by rw [(c_da hu2).2]; rfl) ?_ (by rw [cW_z _ (by omega)]) (fun x => Iff.rfl) (fun J2 F2 L2 => ?_)
      · unfold mCP
        rw [if_pos (by omega), ← hc]
        unfold capJ cC MJ
        rw [if_neg (by omega), if_pos (by omega), show 8 + u - 8 = u by omega, if_pos (by omega)]
      · refine B_X12_layEdges_60 hK (k := ?_)
        refine ih (u + 1) J2 _ _ (by omega) (hF.tr F2 (by decide) (by decide) (by decide) (by decide)) (L2.cg (fun x => ?_))
        constructor
        · rintro ((z | z) | z)
          · exact Or.inl z
          · exact Or.inr (by omega)
          · exact Or.inr (by omega)
        · rintro (z | z)
          · exact Or.inl (Or.inl z)
          · rcases Nat.lt_or_ge x (8 + u) with y | y
            · exact Or.inl (Or.inr (by omega))
            · exact Or.inr (by omega)
  -- flour
  have flo : ∀ (q p : Nat) (J : Nat → Nat → Int) (m : Nat) (lab : Nat → Nat), p + q = P → Fr [71, 72, 73, 74] [(44, 47)] I J → mLab J m lab (nuM r) (cW col) (mCP c) (fun l => l < p) → K 7 [some (vR 44), some (vI last), some (vI so), some (vI (p : Int)), none, none, none] [] (sh, J, L) (0, 0) := by
    intro q
    induction q with
    | zero =>
      intro p J m lab hp hF hJ
      have a1 : J 44 0 = (P : Int) := by rw [hF 44 0 (by decide) (by decide)]; exact hP
      refine B_X12_layEdges_7 hK hs (n12a := by omega) (n12b := by omega) (kt := fun _ => ?_) (kf := fun h => absurd (by omega) h)
      refine B_X12_layEdges_36 hK (k := ?_)
      refine dys (last + 1).toNat 0 J m lab (by omega) hF (hJ.cg (fun x => ?_))
      constructor
      · intro z; exact Or.inl (by omega)
      · rintro (z | z) <;> omega
    | succ q ih =>
      intro p J m lab hp hF hJ
      have a1 : J 44 0 = (P : Int) := by rw [hF 44 0 (by decide) (by decide)]; exact hP
      have t45 : J 45 ((p : Int).toNat) = I 45 p := by rw [Int.toNat_natCast]; exact hF 45 p (by decide) (by simp)
      refine B_X12_layEdges_7 hK hs (n12a := by omega) (n12b := by omega) (kt := fun h => absurd h (by omega)) (kf := fun _ => ?_)
      refine B_X12_layEdges_15 hK hs (b25 := by omega) (k := ?_)
      rw [t45]
      refine s_medge hs hJ p (by omega) (by omega) (by rw [(c_fl (by omega)).1]; rfl) (by rw [(c_fl (by omega)).2, nu_pl r (by omega)]; omega) ?_ (by rw [cW_z _ (by omega)]) (fun x => Iff.rfl) (fun J2 F2 L2 => ?_)
      · unfold mCP
        rw [if_pos (by omega), ← hc]
        unfold capJ cC FJ
        rw [if_pos (by omega), if_pos (by omega)]
      · refine B_X12_layEdges_30 hK (k := ?_)
        refine ih (p + 1) J2 _ _ (by omega) (hF.tr F2 (by decide) (by decide) (by decide) (by decide)) (L2.cg (fun x => by omega))
  refine flo P 0 _ 0 (fun _ => 0) (by omega) (Fr.u Fr.rf 44 47 0 (Or.inr (by decide))) ⟨by rw [u2_at]; rfl, fun i hi => absurd hi (by omega), fun l hl => absurd hl (by omega), fun i j hi => absurd hi (by omega), fun i hi => absurd hi (by omega), fun i hi => absurd hi (by omega)⟩
