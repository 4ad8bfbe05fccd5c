/-! where the column is; what is baked; edges that are laid -/
def clampP (P x : Int) : Int := if x < 0 then 0 else if P - 1 < x then P - 1 else x
def wkP (P : Int) (S : Nat → Int) (way : Int) : Nat → Int × Int
  | 0 => (0, 0)
  | d + 1 => (clampP P ((wkP P S way d).1 + (if S d = 2 then fAnd (fShr way (wkP P S way d).2) 1 else S d)), if S d = 2 then (wkP P S way d).2 + 1 else (wkP P S way d).2)
def colP (P : Int) (S : Nat → Int) (way : Int) (d : Nat) : Int := (wkP P S way (d + 1)).1
theorem clampP_bd {P x : Int} (h : 1 ≤ P) : 0 ≤ clampP P x ∧ clampP P x ≤ P - 1 := by
  unfold clampP
  split
  · omega
  · split <;> omega
theorem wkP_bd {P : Int} {S : Nat → Int} {way : Int} (h : 1 ≤ P) : ∀ d, (0 ≤ (wkP P S way d).1 ∧ (wkP P S way d).1 ≤ P - 1) ∧ 0 ≤ (wkP P S way d).2 ∧ (wkP P S way d).2 ≤ d
  | 0 => by simp only [wkP]; omega
  | d + 1 => by
    have h1 := wkP_bd (S := S) (way := way) h d
    refine ⟨clampP_bd h, ?_⟩
    simp only [wkP]
    split <;> omega
theorem colP_bd {P : Int} {S : Nat → Int} {way : Int} (h : 1 ≤ P) (d : Nat) : 0 ≤ colP P S way d ∧ colP P S way d ≤ P - 1 := (wkP_bd h (d + 1)).1
theorem wkP_cg {P : Int} {S S' : Nat → Int} {way : Int} : ∀ n, (∀ d, d < n → S d = S' d) → wkP P S way n = wkP P S' way n
  | 0, _ => rfl
  | n + 1, h => by
    simp only [wkP, wkP_cg n (fun d hd => h d (by omega)), h n (by omega)]
def bkc (n : Nat) (pl fr to : Nat → Int) (p d bd so : Int) : Int := sm n (fun i => if pl i = p ∧ fr i - so + bd ≤ d ∧ d ≤ to i then 1 else 0)
theorem bkc_bd (n : Nat) (pl fr to : Nat → Int) (p d bd so : Int) : 0 ≤ bkc n pl fr to p d bd so ∧ bkc n pl fr to p d bd so ≤ n := by
  constructor
  · exact sm_nn (fun i _ => by split <;> omega)
  · induction n with
    | zero => exact Int.le_refl _
    | succ n ih =>
      show bkc n pl fr to p d bd so + (if pl n = p ∧ fr n - so + bd ≤ d ∧ d ≤ to n then 1 else 0) ≤ _
      split <;> omega
set_option maxRecDepth 4000 in
theorem s_mwalk {sh : oS} {I : Nat → Nat → Int} {L : Nat → Nat → Int64} {Q : oQ} (hs : Sh sh) {way : Int} {D : Nat} (hD : I 44 38 = (D : Int)) (hD2 : D ≤ 10) (hP : 1 ≤ I 44 0 ∧ I 44 0 ≤ 1000) (hS : ∀ d, d < D → -1 ≤ I 65 d ∧ I 65 d ≤ 2) (k : ∀ J, Fr [67] [] I J → (∀ d, d < D → J 67 d = colP (I 44 0) (I 65) way d) → Q none (sh, J, L)) : T_X12_walk [vR 44, vI way] (sh, I, L) Q := by
  refine And.intro (Nat.le_of_ble_eq_true rfl) (fun K hK => ?_)
  refine B_X12_walk_0 hK (k := ?_)
  have lp : ∀ (q d : Nat) (J : Nat → Nat → Int), d + q = D → Fr [67] [] I J → (∀ i, i < d → J 67 i = colP (I 44 0) (I 65) way i) → K 7 [some (vR 44), some (vI way), some (vI (wkP (I 44 0) (I 65) way d).1), some (vI (wkP (I 44 0) (I 65) way d).2), some (vI (d : Int)), none] [] (sh, J, L) (0, 0) := by
    intro q
    induction q with
    | zero =>
      intro d J hd hF hJ
      have a1 : J 44 38 = (D : Int) := by rw [hF 44 38 (by decide) (by decide)]; exact hD
      refine B_X12_walk_7 hK hs (n13a := by omega) (n13b := by omega) (kt := fun _ => ?_) (kf := fun h => absurd (by omega) h)
      refine B_X12_walk_89 hK (k := ?_)
      exact k J hF (fun i hi => hJ i (by omega))
    | succ q ih =>
      intro d J hd hF hJ
      have a1 : J 44 38 = (D : Int) := by rw [hF 44 38 (by decide) (by decide)]; exact hD
      have a2 : J 44 0 = I 44 0 := hF 44 0 (by decide) (by decide)
      have a3 : J 65 ((d : Int).toNat) = I 65 d := by rw [Int.toNat_natCast]; exact hF 65 d (by decide) (by simp)
      have a4 := hS d (by omega)
      have a5 := wkP_bd (S := I 65) (way := way) hP.1 d
      refine B_X12_walk_7 hK hs (n13a := by omega) (n13b := by omega) (kt := fun h => absurd h (by omega)) (kf := fun _ => ?_)
      -- the place and what follows
      have cl : ∀ s0 : Int, s0 = (wkP (I 44 0) (I 65) way (d + 1)).1 → K 74 [some (vR 44), some (vI way), none, some (vI (wkP (I 44 0) (I 65) way (d + 1)).2), some (vI (d : Int)), none] [vI s0] (sh, J, L) (0, 0) := by
        intro s0 h0
        refine B_X12_walk_74 hK hs (b82 := by omega) (k := ?_)
        rw [h0, Int.toNat_natCast]
        refine ih (d + 1) _ (by omega) (hF.u 67 _ _ (Or.inl (by decide))) (fun i hi => ?_)
        by_cases z : i = d
        · subst z; simp [u2, colP]
        · simp [u2, z]; exact hJ i (by omega)
      have mv : ∀ x5 : Int, x5 = (if I 65 d = 2 then fAnd (fShr way (wkP (I 44 0) (I 65) way d).2) 1 else I 65 d) → K 41 [some (vR 44), some (vI way), some (vI (wkP (I 44 0) (I 65) way d).1), some (vI (wkP (I 44 0) (I 65) way (d + 1)).2), some (vI (d : Int)), some (vI x5)] [] (sh, J, L) (0, 0) := by
        intro x5 h5
        have hx : -1 ≤ x5 ∧ x5 ≤ 1 := by
          rw [h5]
          split
          · have := fAnd1 (fShr way (wkP (I 44 0) (I 65) way d).2); omega
          · omega
        have hcl : (wkP (I 44 0) (I 65) way (d + 1)).1 = clampP (I 44 0) ((wkP (I 44 0) (I 65) way d).1 + x5) := by rw [h5]; rfl
        refine B_X12_walk_41 hK (n47 := by omega) (kt := fun h41 => ?_) (kf := fun h41 => ?_)
        · refine B_X12_walk_54 hK hs (n61a := by omega) (n61b := by omega) (kt := fun h54 => ?_) (kf := fun h54 => ?_)
          · refine B_X12_walk_73 hK (k := ?_)
            exact cl _ (by rw [hcl]; unfold clampP; rw [if_neg (by omega), if_neg (by omega)])
          · refine B_X12_walk_64 hK hs (k := ?_)
            exact cl _ (by rw [hcl]; unfold clampP; rw [if_neg (by omega), if_pos (by omega)]; omega)
        · refine B_X12_walk_50 hK (k := ?_)
          exact cl _ (by rw [hcl]; unfold clampP; rw [if_pos (by omega)])
      refine B_X12_walk_16 hK hs (b22 := by omega) (n28a := by rw [a3]; omega) (kt := fun h16 => ?_) (kf := fun h16 => ?_)
      · rw [a3] at h16
        rw [a3]
        have h9 := mv (I 65 d) (by rw [if_neg h16])
        rw [show (wkP (I 44 0) (I 65) way (d + 1)).2 = (wkP (I 44 0) (I 65) way d).2 by simp only [wkP, if_neg h16]] at h9
        exact h9
      · rw [a3] at h16
        have h2 : I 65 d = 2 := Classical.byContradiction h16
        refine B_X12_walk_31 hK (k := ?_)
        have h9 := mv (fAnd (fShr way (wkP (I 44 0) (I 65) way d).2) 1) (by rw [if_pos h2])
        rw [show (wkP (I 44 0) (I 65) way (d + 1)).2 = (wkP (I 44 0) (I 65) way d).2 + 1 by simp only [wkP, if_pos h2]] at h9
        exact h9
  exact lp D 0 I (by omega) Fr.rf (fun i hi => absurd hi (by omega))
set_option maxRecDepth 4000 in
theorem s_bakesAt {sh : oS} {I : Nat → Nat → Int} {L : Nat → Nat → Int64} {Q : oQ} (hs : Sh sh) {p d so : Int} {n : Nat} (hn : I 44 43 = (n : Int)) (hn2 : n ≤ 40) (hp : inR p) (hd : inR d) (hso : 0 ≤ so ∧ so ≤ 1000) (hb : 0 ≤ I 44 4 ∧ I 44 4 ≤ 1000) (hA : ∀ i, i < n → inR (I 68 i) ∧ (-1000 ≤ I 69 i ∧ I 69 i ≤ 1000) ∧ inR (I 70 i)) (k : ∀ r, r = bkc n (I 68) (I 69) (I 70) p d (I 44 4) so * I 44 3 → Q (some (vI r)) (sh, I, L)) : T_X12_bakesAt [vR 44, vI p, vI d, vI so] (sh, I, L) Q := by
  refine And.intro (Nat.le_of_ble_eq_true rfl) (fun K hK => ?_)
  refine B_X12_bakesAt_0 hK (k := ?_)
  have lp : ∀ (q i : Nat), i + q = n → K 6 [some (vR 44), some (vI p), some (vI d), some (vI so), some (vI (bkc i (I 68) (I 69) (I 70) p d (I 44 4) so)), some (vI (i : Int)), none] [] (sh, I, L) (0, 0) := by
    intro q
    induction q with
    | zero =>
      intro i hi
      refine B_X12_bakesAt_6 hK hs (n12a := by omega) (n12b := by omega) (kt := fun _ => ?_) (kf := fun h => absurd (by omega) h)
      refine B_X12_bakesAt_83 hK hs (k := ?_)
      have e : i = n := by omega
      subst e
      exact k _ rfl
    | succ q ih =>
      intro i hi
      obtain ⟨a1, a2, a3⟩ := hA i (by omega)
      have t : (i : Int).toNat = i := Int.toNat_natCast i
      refine B_X12_bakesAt_6 hK hs (n12a := by omega) (n12b := by omega) (kt := fun h => absurd h (by omega)) (kf := fun _ => ?_)
      have fin : ∀ s0 : Int, s0 = (if I 68 i = p ∧ I 69 i - so + I 44 4 ≤ d ∧ d ≤ I 70 i then 1 else 0) → K 60 [some (vR 44), some (vI p), some (vI d), some (vI so), some (vI (bkc i (I 68) (I 69) (I 70) p d (I 44 4) so)), some (vI (i : Int)), none] [vI s0] (sh, I, L) (0, 0) := by
        intro s0 h0
        have e : bkc (i + 1) (I 68) (I 69) (I 70) p d (I 44 4) so = bkc i (I 68) (I 69) (I 70) p d (I 44 4) so + s0 := by rw [h0]; rfl
        have h01 : s0 = 0 ∨ s0 = 1 := by rw [h0]; split <;> omega
        refine B_X12_bakesAt_60 hK (n66 := by omega) (kt := fun h60 => ?_) (kf := fun h60 => ?_)
        · refine B_X12_bakesAt_73 hK (k := ?_)
          refine B_X12_bakesAt_74 hK (k := ?_)
          have h9 := ih (i + 1) (by omega)
          rw [e, h60] at h9
          exact h9
        · refine B_X12_bakesAt_69 hK (k := ?_)
          refine B_X12_bakesAt_74 hK (k := ?_)
          have h9 := ih (i + 1) (by omega)
          rw [e, show s0 = 1 by omega] at h9
          exact h9
      refine B_X12_bakesAt_15 hK hs (b21 := by omega) (n23a := by rw [t]; exact a1) (n23b := hp) (kt := fun h15 => ?_) (kf := fun h15 => ?_)
      · rw [t] at h15
        refine B_X12_bakesAt_59 hK (k := ?_)
        exact fin 0 (by rw [if_neg (fun z => h15 z.1)])
      rw [t] at h15
      refine B_X12_bakesAt_26 hK hs (b33 := by omega) (n41a := hd) (n41b := by rw [t]; omega) (kt := fun h26 => ?_) (kf := fun h26 => ?_)
      · rw [t] at h26
        refine B_X12_bakesAt_59 hK (k := ?_)
        exact fin 0 (by rw [if_neg (fun z => by omega)])
      rw [t] at h26
      refine B_X12_bakesAt_44 hK hs (b51 := by omega) (n52a := hd) (n52b := by rw [t]; exact a3) (kt := fun h44 => ?_) (kf := fun h44 => ?_)
      · rw [t] at h44
        refine B_X12_bakesAt_59 hK (k := ?_)
        exact fin 0 (by rw [if_neg (fun z => by omega)])
      · rw [t] at h44
        refine B_X12_bakesAt_55 hK (k := ?_)
        exact fin 1 (by rw [if_pos ⟨Classical.byContradiction h15, by omega, by omega⟩])
  exact lp n 0 (by omega)
/-- a net as it is being laid: m edges, told by labels; S: which labels there are -/
def mLab (I : Nat → Nat → Int) (m : Nat) (lab : Nat → Nat) (nu : Nat → Nat) (w cp : Nat → Int) (S : Nat → Prop) : Prop := I 44 47 = 2 * (m : Int) ∧ (∀ i, i < m → S (lab i)) ∧ (∀ l, S l → ∃ i, i < m ∧ lab i = l) ∧ (∀ i j, i < m → j < m → lab i = lab j → i = j) ∧ (∀ i, i < m → lab i < 1994) ∧ ∀ i, i < m → (I 71 (2 * i) = (nu (cU (lab i)) : Int) ∧ I 72 (2 * i) = (nu (cV (lab i)) : Int) ∧ I 73 (2 * i) = cp (lab i) ∧ I 74 (2 * i) = w (lab i)) ∧ (I 71 (2 * i + 1) = (nu (cV (lab i)) : Int) ∧ I 72 (2 * i + 1) = (nu (cU (lab i)) : Int) ∧ I 73 (2 * i + 1) = 0 ∧ I 74 (2 * i + 1) = -w (lab i))
theorem lab_few {m : Nat} {lab : Nat → Nat} (h1 : ∀ i, i < m → lab i < 1994) (h2 : ∀ i j, i < m → j < m → lab i = lab j → i = j) : m ≤ 1994 := by
  rcases Nat.eq_zero_or_pos m with q | q
  · omega
  · have := pigeon 1994 (m - 1) lab (fun j hj => h1 j (by omega)) (fun i j hi hj e => h2 i j (by omega) (by omega) e)
    omega
set_option maxRecDepth 4000 in
theorem s_medge {sh : oS} {I : Nat → Nat → Int} {L : Nat → Nat → Int64} {Q : oQ} (hs : Sh sh) {m : Nat} {lab nu : Nat → Nat} {w cp : Nat → Int} {S S' : Nat → Prop} (h : mLab I m lab nu w cp S) {a b r c : Int} (l : Nat) (hl : l < 1994) (hS : ¬ S l) (ha : a = (nu (cU l) : Int)) (hb : b = (nu (cV l) : Int)) (hr : r = cp l) (hc : c = w l) (hS' : ∀ x, S' x ↔ S x ∨ x = l) (k : ∀ J, Fr [71, 72, 73, 74] [(44, 47)] I J → mLab J (m + 1) (fun i => if i = m then l else lab i) nu w cp S' → Q none (sh, J, L)) : T_X12_edge [vR 44, vI a, vI b, vI r, vI c] (sh, I, L) Q := by
  refine And.intro (Nat.le_of_ble_eq_true rfl) (fun K hK => ?_)
  obtain ⟨h1, h2, h3, h4, h5, h6⟩ := h
  have hm := lab_few h5 h4
  refine B_X12_edge_0 hK hs (b9 := by omega) (b52 := by omega) (k := ?_)
  have t1 : (I 44 47).toNat = 2 * m := by omega
  have t2 : (I 44 47 + 1).toNat = 2 * m + 1 := by omega
  rw [t1, t2]
  refine k _ ?_ ?_
  · refine Fr.u (Fr.u (Fr.u (Fr.u (Fr.u (Fr.u (Fr.u (Fr.u (Fr.u Fr.rf 71 _ _ ?_) 72 _ _ ?_) 73 _ _ ?_) 74 _ _ ?_) 71 _ _ ?_) 72 _ _ ?_) 73 _ _ ?_) 74 _ _ ?_) 44 47 _ ?_
    all_goals first | exact Or.inl (by decide) | exact Or.inr (by decide)
  · have x71 : ∀ q, q ≠ 2 * m → q ≠ 2 * m + 1 → ∀ h, h ≠ 44 → (u2 (u2 (u2 (u2 (u2 (u2 (u2 (u2 (u2 I 71 (2 * m) a) 72 (2 * m) b) 73 (2 * m) r) 74 (2 * m) c) 71 (2 * m + 1) b) 72 (2 * m + 1) a) 73 (2 * m + 1) 0) 74 (2 * m + 1) (-c)) 44 47 (I 44 47 + 2)) h q = I h q := by
      intro q q1 q2 h hh
      simp [u2, q1, q2, hh]
    refine ⟨by rw [u2_at]; omega, fun i hi => ?_, fun x hx => ?_, fun i j hi hj e => ?_, fun i hi => ?_, fun i hi => ?_⟩
    · rw [hS']
      by_cases z : i = m
      · simp only [if_pos z]; exact Or.inr trivial
      · simp only [if_neg z]; exact Or.inl (h2 i (by omega))
    · rw [hS'] at hx
      rcases hx with hx | hx
      · obtain ⟨i, i1, i2⟩ := h3 x hx
        exact ⟨i, by omega, by simp only [if_neg (show ¬ i = m by omega)]; exact i2⟩
      · exact ⟨m, by omega, by simp only [if_true]; exact hx.symm⟩
    · by_cases z1 : i = m <;> by_cases z2 : j = m
      · omega
      · simp only [if_pos z1, if_neg z2] at e
        exact absurd (by rw [e]; exact h2 j (by omega)) hS
      · simp only [if_neg z1, if_pos z2] at e
        exact absurd (by rw [← e]; exact h2 i (by omega)) hS
      · simp only [if_neg z1, if_neg z2] at e
        exact h4 i j (by omega) (by omega) e
    · by_cases z : i = m
      · simp only [if_pos z]; exact hl
      · simp only [if_neg z]; exact h5 i (by omega)
    · by_cases z : i = m
      · subst z
        simp only [if_true]
        have n1 : ¬ 2 * i + 1 = 2 * i := by omega
        have n2 : ¬ 2 * i = 2 * i + 1 := by omega
        simp only [u2, if_true, n2]
        simp [ha, hb, hr, hc]
      · simp only [if_neg z]
        rw [x71 _ (by omega) (by omega) 71 (by decide), x71 _ (by omega) (by omega) 72 (by decide), x71 _ (by omega) (by omega) 73 (by decide), x71 _ (by omega) (by omega) 74 (by decide), x71 _ (by omega) (by omega) 71 (by decide), x71 _ (by omega) (by omega) 72 (by decide), x71 _ (by omega) (by omega) 73 (by decide), x71 _ (by omega) (by omega) 74 (by decide)]
        exact h6 i (by omega)
