/-- what is asked ahead of a flow: land, stands, the march that is loaded -/
def mPre (I : Nat → Nat → Int) (P n D : Nat) : Prop := I 44 0 = (P : Int) ∧ 1 ≤ P ∧ P ≤ 8 ∧ I 44 43 = (n : Int) ∧ n ≤ 40 ∧ I 44 38 = (D : Int) ∧ D ≤ 10 ∧ (0 ≤ I 44 3 ∧ I 44 3 ≤ 1000) ∧ (0 ≤ I 44 4 ∧ I 44 4 ≤ 1000) ∧ (0 ≤ I 44 5 ∧ I 44 5 ≤ 1000) ∧ (∀ p, p < P → 0 ≤ I 45 p ∧ I 45 p ≤ 100000) ∧ (∀ d, d < D → -1 ≤ I 65 d ∧ I 65 d ≤ 2) ∧ (∀ d, d < D → 0 ≤ I 66 d ∧ I 66 d ≤ 99) ∧ (∀ i, i < n → inR (I 68 i) ∧ (0 ≤ I 69 i ∧ I 69 i ≤ 1000) ∧ inR (I 70 i))
/-- the rooms of the net that the reference's memory tells -/
def mCap (I : Nat → Nat → Int) (n : Nat) (col : Nat → Int) (last so : Int) : Nat → Int := capJ (I 44 0) last (I 45) (I 66) col n (I 68) (I 69) (I 70) (I 44 3) (I 44 4) (I 44 5) so
set_option maxRecDepth 4000 in
set_option maxHeartbeats 2000000 in
theorem s_mflow {sh : oS} {I : Nat → Nat → Int} {L : Nat → Nat → Int64} {Q : oQ} (hs : Sh sh) {P n D : Nat} {way last so : Int} (h : mPre I P n D) (hla : 0 ≤ last ∧ last < D) (hso : 0 ≤ so ∧ so ≤ 9)
    (k : ∀ J v c, Fr [67, 71, 72, 73, 74, 75, 76] [(44, 47), (44, 54), (44, 55)] I J → (∀ d, d < D → J 67 d = colP (I 44 0) (I 65) way d) → cBest (mCap I n (colP (I 44 0) (I 65) way) last so) (cW (colP (I 44 0) (I 65) way)) v c → J 44 54 = sm (last + 1).toNat (I 66) - v → J 44 55 = c → Q none (sh, J, L)) : T_X12_flow [vR 44, vI way, vI last, vI so] (sh, I, L) Q := by
  refine And.intro (Nat.le_of_ble_eq_true rfl) (fun K hK => ?_)
  obtain ⟨hP, hP1, hP2, hn, hn2, hD, hD2, hbk, hbd, hkp, hF, hS, hM, hA⟩ := h
  refine B_X12_flow_0 hK hs (k := ?_)
  refine s_mwalk hs hD hD2 (by omega) hS (fun J1 F1 C1 => ?_)
  generalize hcol : colP (I 44 0) (I 65) way = col at C1 k
  have cb : ∀ u, 0 ≤ col u ∧ col u ≤ 7 := fun u => by
    have := colP_bd (P := I 44 0) (S := I 65) (way := way) (by omega) u
    rw [hcol] at this
    omega
  have e1 : ∀ k, J1 44 k = I 44 k := fun k => F1 44 k (by decide) (by simp)
  have e45 : J1 45 = I 45 := by funext x; exact F1 45 x (by decide) (by simp)
  have e66 : J1 66 = I 66 := by funext x; exact F1 66 x (by decide) (by simp)
  have e68 : J1 68 = I 68 := by funext x; exact F1 68 x (by decide) (by simp)
  have e69 : J1 69 = I 69 := by funext x; exact F1 69 x (by decide) (by simp)
  have e70 : J1 70 = I 70 := by funext x; exact F1 70 x (by decide) (by simp)
  refine B_X12_flow_5 hK hs (k := ?_)
  refine s_layEdges hs (P := P) (n := n) (col := col) (by rw [e1]; exact hP) hP2 (by rw [e1]; exact hn) hn2 hso (by omega) (by rw [e1]; exact hkp) (by rw [e1]; exact hbd) (by rw [e1]; exact hbk) (fun u hu => ⟨C1 u (by omega), cb u⟩) (by rw [e68, e69, e70]; exact hA) (fun J2 m lab F2 hL => ?_)
  rw [e68, e69, e70, e66, e45, e1, e1, e1, ← hP] at hL
  have hcap : capJ (I 44 0) last (I 45) (I 66) col n (I 68) (I 69) (I 70) (I 44 3) (I 44 4) (I 44 5) so = mCap I n col last so := rfl
  rw [hcap] at hL
  generalize hr : rJ (I 44 0) last n (I 68) (I 69) (I 70) (I 44 3) (I 44 4) so = r at hL
  generalize hc : mCap I n col last so = c at hL k
  have r0 : ∀ j, 0 ≤ r j := fun j => by rw [← hr]; exact rJ_nn hbk.1 j
  have r1 : ∀ j, r j ≤ 40000 := fun j => by rw [← hr]; exact rJ_le hbk hn2 j
  have hcC : c = cC (FJ (I 44 0) (I 45)) (MJ last (I 66)) r (twJ so) (eaJ last (I 44 5) col) := by rw [← hc, ← hr]; rfl
  have FJ0 : ∀ p, 0 ≤ FJ (I 44 0) (I 45) p ∧ FJ (I 44 0) (I 45) p ≤ 100000 := fun p => by
    unfold FJ
    split
    · exact hF p (by omega)
    · omega
  have MJ0 : ∀ u, 0 ≤ MJ last (I 66) u ∧ MJ last (I 66) u ≤ 99 := fun u => by
    unfold MJ
    split
    · exact hM u (by omega)
    · omega
  have c0 : ∀ l, 0 ≤ c l := fun l => by rw [hcC]; exact cC_nn (fun p => (FJ0 p).1) (fun u => (MJ0 u).1) r0 l
  have c1 : ∀ l, c l ≤ 100000 := fun l => by
    rw [hcC]
    unfold cC
    repeat' split
    · exact (FJ0 _).2
    · have := (MJ0 (l - 8)).2; omega
    all_goals first | omega | (have := r1 (l - 18); omega) | (have := r1 (l - 170); omega) | (have := r1 (l - 322); omega) | (have := r1 ((l - 474) / 10); omega)
  obtain ⟨l1, l2, l3, l4, l5, l6⟩ := hL
  have hm := lab_few l5 l4
  have F12 : Fr [67, 71, 72, 73, 74, 75, 76] [(44, 47), (44, 54), (44, 55)] I J2 := F1.tr F2 (by decide) (by decide) (by decide) (by decide)
  -- the net by places
  generalize hu : (fun i => nuM r (cU (lab i))) = u
  generalize hv : (fun i => nuM r (cV (lab i))) = v
  generalize hw : (fun i => cW col (lab i)) = w
  generalize hcp : (fun i => mCP c (lab i)) = cp
  have u1 : ∀ i, u i = nuM r (cU (lab i)) := fun i => by rw [← hu]
  have v1 : ∀ i, v i = nuM r (cV (lab i)) := fun i => by rw [← hv]
  have w1 : ∀ i, w i = cW col (lab i) := fun i => by rw [← hw]
  have p1 : ∀ i, cp i = mCP c (lab i) := fun i => by rw [← hcp]
  have prs : ∀ i, i < m → prN r (cU (lab i)) ∧ prN r (cV (lab i)) := fun i hi => Sov_pr (l2 i hi)
  have hl : ∀ i, i < m → u i < 340 ∧ v i < 340 := fun i hi => by
    rw [u1, v1]
    exact ⟨nuM_lt r _ (prs i hi).1, nuM_lt r _ (prs i hi).2⟩
  have hwb : ∀ i, i < m → 0 ≤ w i ∧ w i ≤ 7 := fun i hi => by rw [w1]; exact cW_bd (fun u _ => cb u) (l5 i hi)
  have cpb : ∀ i, 0 ≤ cp i ∧ cp i ≤ 1000000000 := fun i => by
    rw [p1]
    unfold mCP
    split
    · have := c0 (lab i); have := c1 (lab i); omega
    · omega
  have hnet : mNet J2 m u v w := by
    refine ⟨l1, by omega, fun e he => ?_⟩
    obtain ⟨⟨a1, a2, a3, a4⟩, b1, b2, b3, b4⟩ := l6 (e / 2) (by omega)
    rcases e_cases e with q | q
    · have e1 := e_ev u v w (e / 2)
      rw [← q] at e1 a1 a2 a4
      rw [e1.1, e1.2.1, e1.2.2, u1, v1, w1]
      exact ⟨a1, a2, a4⟩
    · have e1 := e_od u v w (e / 2)
      rw [← q] at e1 b1 b2 b4
      rw [e1.1, e1.2.1, e1.2.2, u1, v1, w1]
      exact ⟨b1, b2, b4⟩
  have rm0 : ∀ i, i < m → J2 73 (2 * i) = cp i ∧ J2 73 (2 * i + 1) = 0 := fun i hi => by
    rw [p1]
    exact ⟨(l6 i hi).1.2.2.1, (l6 i hi).2.2.2.1⟩
  have fl0 : ∀ i, i < m → fl (J2 73) i = 0 := fun i hi => (rm0 i hi).2
  have bal0 : ∀ x, bal m u v (fl (J2 73)) x = 0 := fun x => sm_zero' (fun i hi => by rw [fl0 i hi]; split <;> split <;> rfl)
  have hRs : Rs m 340 u v w cp 0 19 (J2 73) := by
    refine ⟨hl, fun e he => ?_, fun i hi => ?_, fun x _ _ _ => bal0 x, fun _ => 0, fun e he hre => ?_⟩
    · have h1 := rm0 (e / 2) (by omega)
      have h2 := cpb (e / 2)
      rcases e_cases e with q | q <;> (rw [← q] at h1; omega)
    · have h1 := rm0 i hi; omega
    · have h1 := rm0 (e / 2) (by omega)
      rcases e_cases e with q | q
      · have e1 := e_ev u v w (e / 2)
        rw [← q] at e1
        have := hwb (e / 2) (by omega)
        show (0 : Int) ≤ 0 + eC w e
        rw [e1.2.2]; omega
      · rw [← q] at h1; omega
  have hV : sm m (fun i => if v i = 19 then cp i else 0) ≤ 1000 := by
    have a : sm m (fun i => if v i = 19 then cp i else 0) ≤ sm m (fun i => (fun l => if 8 ≤ l ∧ l < 18 then MJ last (I 66) (l - 8) else 0) (lab i)) := by
      apply sm_le
      intro i hi
      by_cases q : v i = 19
      · rw [if_pos q]
        have e : cV (lab i) = 1 := nuM_inj r _ _ (prs i hi).2 (Or.inl (by decide)) (by rw [← v1, q]; rfl)
        have e2 : 8 ≤ lab i ∧ lab i < 18 := by
          have := l5 i hi
          unfold cV at e
          repeat' split at e
          all_goals omega
        show cp i ≤ if 8 ≤ lab i ∧ lab i < 18 then MJ last (I 66) (lab i - 8) else 0
        rw [if_pos e2, p1]
        unfold mCP
        rw [if_pos (by omega), hcC]
        unfold cC
        rw [if_neg (by omega), if_pos (by omega)]
        exact Int.le_refl _
      · rw [if_neg q]
        show 0 ≤ if 8 ≤ lab i ∧ lab i < 18 then MJ last (I 66) (lab i - 8) else 0
        split
        · exact (MJ0 _).1
        · omega
    have b := sm_lab (G := fun l => if 8 ≤ l ∧ l < 18 then MJ last (I 66) (l - 8) else 0) l5 l4 (fun l _ => by
      show 0 ≤ if 8 ≤ l ∧ l < 18 then MJ last (I 66) (l - 8) else 0
      split
      · exact (MJ0 _).1
      · omega)
    have d : sm 1994 (fun l => if 8 ≤ l ∧ l < 18 then MJ last (I 66) (l - 8) else 0) = sm 10 (fun x => MJ last (I 66) x) := by
      rw [show (1994 : Nat) = 8 + (10 + 1976) from rfl, sm_split, sm_split]
      rw [sm_zero' (n := 8) (fun i hi => if_neg (by omega)), sm_zero' (n := 1976) (fun i hi => if_neg (by omega))]
      rw [sm_congr (n := 10) (g := fun x => MJ last (I 66) x) (fun i hi => by rw [if_pos (by omega), show 8 + i - 8 = i by omega])]
      omega
    have e : sm 10 (fun x => MJ last (I 66) x) ≤ sm 10 (fun _ => 99) := sm_le (fun i _ => (MJ0 i).2)
    have f : sm 10 (fun _ => 99) = 990 := by decide
    have ab := Int.le_trans a b
    omega
  refine B_X12_flow_11 hK hs (k := ?_)
  have e73 : (u2 J2 44 55 0) 73 = J2 73 := u2_h (by decide)
  -- all who eat
  have sums : ∀ (q x : Nat), (x : Int) + q = last + 1 → K 25 [some (vR 44), none, some (vI last), none, some (vI 0), some (vI (sm x (I 66))), some (vI (x : Int)), none, none, none] [] (sh, u2 J2 44 55 0, L) (0, 0) := by
    intro q
    induction q with
    | zero =>
      intro x hx
      refine B_X12_flow_25 hK (n28a := by omega) (n28b := by omega) (kt := fun _ => ?_) (kf := fun z => absurd (by omega) z)
      have hx2 : x = (last + 1).toNat := by omega
      have st : mSt (u2 J2 44 55 0) (u2 J2 44 55 0) m u v w cp := by
        refine ⟨Fr.rf, hnet.fr (by simp [u2]) (u2_h (by decide)) (u2_h (by decide)) (u2_h (by decide)), by rw [e73]; exact hRs, ?_⟩
        rw [u2_at, e73]
        symm
        apply sm_zero'
        intro i hi
        rw [fl0 i hi, Int.mul_zero]
      have go := m_aug (L := L) (I0 := u2 J2 44 55 0) hK hs (m := m) (u := u) (v := v) (w := w) (cp := cp) (fun i hi => by have := hwb i hi; omega) (fun i hi => (cpb i).2) hV (sm x (I 66)) (fun J3 hJ3 R hR0 hR19 hRc => ?_) 1000 _ st (by rw [e73, bal0]; omega)
      · rw [e73, bal0] at go
        exact go
      · obtain ⟨F3, -, ⟨-, q0, q1, q2, pi, q3⟩, q4⟩ := hJ3
        refine B_X12_flow_230 hK hs (k := ?_)
        have ff : ∀ i, i < m → 0 ≤ fl (J3 73) i ∧ fl (J3 73) i ≤ cp i := fun i hi => by
          have h1 := q0 (2 * i) (by omega)
          have h2 := q0 (2 * i + 1) (by omega)
          have h3 := q1 i hi
          unfold fl; omega
        have ffc : ∀ i, i < m → 0 ≤ fl (J3 73) i ∧ fl (J3 73) i ≤ c (lab i) := by
          have hin : ∀ i j, i < m → lab i = 18 + j → j < 152 → fl (J3 73) i ≤ c (18 + j) := fun i j hi e hj => by
            have := (ff i hi).2
            rw [p1] at this
            unfold mCP at this
            rw [if_pos (by omega), e] at this
            exact this
          intro i hi
          refine ⟨(ff i hi).1, ?_⟩
          by_cases z : lab i < 170
          · have := (ff i hi).2
            rw [p1] at this
            unfold mCP at this
            rw [if_pos z] at this
            exact this
          · have hS := l2 i hi
            have hlt := l5 i hi
            have key : ∀ j, j < 152 → (cV (lab i) = 20 + 2 * j ∨ cU (lab i) = 21 + 2 * j) → fl (J3 73) i ≤ c (18 + j) := fun j hj hq => by
              refine Int.le_trans (oven_le (cp := fun l => if l < 170 then c l else 1000000000) (nu := nuM r) (prs := prN r) l5 l4 (fun i hi => ⟨u1 i, (prs i hi).1⟩) (fun i hi => ⟨v1 i, (prs i hi).2⟩) (nuM_inj r) (nuM_lt r) (Or.inl (by decide)) (Or.inl (by decide)) rfl rfl q2 (fun i hi => (ff i hi).1) (fun i2 j2 hi2 e2 => ?_) hi hq ?_) ?_
              · by_cases y : 18 + j2 < 170
                · simp only [if_pos y]
                  exact hin i2 j2 hi2 e2 (by omega)
                · simp only [if_neg y]
                  have := (ff i2 hi2).2
                  have := (cpb i2).2
                  omega
              · simp only [if_pos (show 18 + j < 170 by omega)]
                exact c0 _
              · simp only [if_pos (show 18 + j < 170 by omega)]
                exact Int.le_refl _
            have cIn : ∀ j, j < 152 → c (18 + j) = r j := fun j hj => by
              rw [hcC]; unfold cC
              rw [if_neg (by omega), if_neg (by omega), if_pos (by omega), show 18 + j - 18 = j by omega]
            rcases hS with hS | hS | ⟨hS, -⟩
            · omega
            · omega
            · obtain ⟨a1, a2, a3, a4, a5⟩ := hS
              by_cases b2 : lab i < 322
              · have e := c_lo (j := lab i - 170) (by omega)
                rw [show 170 + (lab i - 170) = lab i by omega] at e
                have h9 := key (lab i - 170) (by omega) (Or.inl e.2)
                rw [cIn _ (by omega)] at h9
                rw [hcC]; unfold cC
                rw [if_neg (by omega), if_neg (by omega), if_neg z, if_pos b2]
                exact h9
              · by_cases b3 : lab i < 474
                · have e := c_to (j := lab i - 322) (by omega)
                  rw [show 322 + (lab i - 322) = lab i by omega] at e
                  have h9 := key (lab i - 322) (by omega) (Or.inl e.2)
                  rw [cIn _ (by omega)] at h9
                  have h4 := a4 (by omega) b3
                  unfold jOf at h4
                  rw [if_neg z, if_neg b2, if_pos b3] at h4
                  rw [hcC]; unfold cC
                  rw [if_neg (by omega), if_neg (by omega), if_neg z, if_neg b2, if_pos b3, if_pos h4]
                  exact h9
                · have e := c_br (j := (lab i - 474) / 10) (u := (lab i - 474) % 10) (by omega) (by omega)
                  rw [show 474 + 10 * ((lab i - 474) / 10) + (lab i - 474) % 10 = lab i by omega] at e
                  have h9 := key ((lab i - 474) / 10) (by omega) (Or.inr e.1)
                  rw [cIn _ (by omega)] at h9
                  have h5 := a5 (by omega)
                  unfold jOf at h5
                  rw [if_neg z, if_neg b2, if_neg b3] at h5
                  rw [hcC]; unfold cC
                  rw [if_neg (by omega), if_neg (by omega), if_neg z, if_neg b2, if_neg b3, if_pos h5]
                  exact h9
        have lecp : ∀ i, c (lab i) ≤ cp i := fun i => by
          rw [p1]; unfold mCP
          have := c1 (lab i)
          split <;> omega
        obtain ⟨t1, t2, t3, t4⟩ := tr_cert (f := fl (J3 73)) (cp := c) (nu := nuM r) (prs := prN r) (s := 0) (t := 19) (N := 340) (u := u) (v := v) l5 l4 (fun i hi => ⟨u1 i, (prs i hi).1⟩) (fun i hi => ⟨v1 i, (prs i hi).2⟩) (nuM_inj r) (nuM_lt r) (Or.inl (by decide)) (Or.inl (by decide)) rfl rfl q2 ffc (fun l _ => c0 l) (fun l hl2 hcl => l3 l (by rw [hcC] at hcl; exact cC_S hl2 hcl))
        have open1 : ∀ i, i < m → fl (J3 73) i < c (lab i) → 0 < J3 73 (2 * i) := fun i hi hlt => by
          have := lecp i
          have := q1 i hi
          unfold fl at hlt; omega
        have best : cBest c (cW col) (bal m u v (fl (J3 73)) 19) (J3 44 55) := by
          refine ⟨byLab m lab (fl (J3 73)), fun x => R (nuM r x), fun x => pi (nuM r x), t1, hR0, hR19, t3 (fun a b _ => R (nuM r a) = true → R (nuM r b) = true) (fun i hi hlt => ?_), t4 (fun a b _ => R (nuM r b) = true → R (nuM r a) = true) (fun i hi hlt => ?_), t2.symm, t3 (fun a b l => pi (nuM r b) ≤ pi (nuM r a) + cW col l) (fun i hi hlt => ?_), t4 (fun a b l => pi (nuM r a) + cW col l ≤ pi (nuM r b)) (fun i hi hlt => ?_), ?_⟩
          · have h1 := hRc (2 * i) (by omega) (open1 i hi hlt)
            rw [(e_ev u v w i).1, (e_ev u v w i).2.1, u1, v1] at h1
            exact h1
          · have h1 := hRc (2 * i + 1) (by omega) hlt
            rw [(e_od u v w i).1, (e_od u v w i).2.1, u1, v1] at h1
            exact h1
          · have h1 := q3 (2 * i) (by omega) (open1 i hi hlt)
            rw [(e_ev u v w i).1, (e_ev u v w i).2.1, (e_ev u v w i).2.2, u1, v1, w1] at h1
            exact h1
          · have h1 := q3 (2 * i + 1) (by omega) hlt
            rw [(e_od u v w i).1, (e_od u v w i).2.1, (e_od u v w i).2.2, u1, v1, w1] at h1
            show pi (nuM r (cU (lab i))) + cW col (lab i) ≤ pi (nuM r (cV (lab i)))
            omega
          · rw [q4, byLab_sum l5 (cW col)]
            apply sm_congr
            intro i hi
            rw [w1]
        have hF3 : Fr [67, 71, 72, 73, 74, 75, 76] [(44, 47), (44, 54), (44, 55)] I J3 := (F12.u 44 55 0 (Or.inr (by decide))).tr F3 (by decide) (by decide) (by decide) (by decide)
        have f67 : J3 67 = J1 67 := by
          funext x
          rw [F3 67 x (by decide) (by simp), u2_h (by decide)]
          exact F2 67 x (by decide) (by simp)
        refine k _ (bal m u v (fl (J3 73)) 19) (J3 44 55) (hF3.u 44 54 _ (Or.inr (by decide))) (fun d hd => ?_) best ?_ ?_
        · rw [u2_h (by decide), f67]
          exact C1 d hd
        · rw [u2_at, ← hx2]
        · simp [u2]
    | succ q ih =>
      intro x hx
      have t66 : (u2 J2 44 55 0) 66 ((x : Int).toNat) = I 66 x := by
        rw [Int.toNat_natCast, u2_h (by decide), F2 66 x (by decide) (by simp), e66]
      refine B_X12_flow_25 hK (n28a := by omega) (n28b := by omega) (kt := fun z => absurd z (by omega)) (kf := fun _ => ?_)
      refine B_X12_flow_31 hK hs (b39 := by omega) (k := ?_)
      rw [t66]
      exact ih (x + 1) (by omega)
  exact sums (last + 1).toNat 0 (by omega)
