/-! ovens of a best plan -/
def bA (n : Int) (c : Nat) : Nat := if n = 1 then c else c / 8
def bMay (P : Int) (wd : Nat → Int) (n : Int) (c : Nat) : Bool := decide ((bA n c : Int) < P ∧ ((c % 8 : Nat) : Int) < P ∧ bA n c ≤ c % 8 ∧ wd (bA n c) ≠ 0 ∧ wd (c % 8) ≠ 0)
def bTw (P : Int) (wd : Nat → Int) (D n : Int) (c : Nat) : List stT := two P wd D n (bA n c : Int) ((c % 8 : Nat) : Int)
/-- the one that is taken so far, with its hungry and carried -/
noncomputable def bsS (may : Nat → Bool) (E : Nat → Int × Int) : Nat → Int × Int × Int
  | 0 => (-1, 0, 0)
  | c + 1 => if may c = true ∧ ((bsS may E c).1 = -1 ∨ (E c).1 < (bsS may E c).2.1 ∨ (E c).1 = (bsS may E c).2.1 ∧ (E c).2 < (bsS may E c).2.2) then (c, E c) else bsS may E c
def bsL (P : Int) (wd : Nat → Int) (D n : Int) (b : Int) : List stT := if b = -1 then [] else bTw P wd D n b.toNat
theorem bsS_bd {may : Nat → Bool} {E : Nat → Int × Int} : ∀ c : Nat, -1 ≤ (bsS may E c).1 ∧ (bsS may E c).1 < c
  | 0 => by simp only [bsS]; omega
  | c + 1 => by
    have := bsS_bd (may := may) (E := E) c
    unfold bsS
    split
    · simp only []; omega
    · omega
theorem bTw_ok {P D n : Int} {wd : Nat → Int} {c : Nat} : stOK P D (bTw P wd D n c) := two_ok (by omega) (by omega)
theorem bsL_ok {P D n b : Int} {wd : Nat → Int} : stOK P D (bsL P wd D n b) := by
  unfold bsL
  split
  · exact stOK_nil
  · exact bTw_ok
theorem bsL_len {P D n b : Int} {wd : Nat → Int} : (bsL P wd D n b).length ≤ 2 := by
  unfold bsL
  split
  · simp
  · exact two_len
set_option maxHeartbeats 1000000 in
theorem s_layBest {sh : oS} {I : Nat → Nat → Int} {L : Nat → Nat → Int64} {Q : oQ} (hs : Sh sh) {P D : Nat} {n : Int} (h : mGo I P D) (hD : 1 ≤ D) (hn : inR n) (k : ∀ J, Fr [67, 68, 69, 70, 71, 72, 73, 74, 75, 76] [(44, 43), (44, 47), (44, 54), (44, 55)] I J → mLs J (bsL (I 44 0) (I 46) (I 44 38) n (bsS (bMay (I 44 0) (I 46) n) (fun c => evL (I 44 0) (I 44 38 - 1) (I 45) (I 66) (colP (I 44 0) (I 65) (fShl 1 (I 44 39) - 1)) (bTw (I 44 0) (I 46) (I 44 38) n c) (I 44 3) (I 44 4) (I 44 5) 0) (if n = 1 then 8 else 64)).1) → Q none (sh, J, L)) : T_X12_layBest [vR 44, vI n] (sh, I, L) Q := by
  refine And.intro (Nat.le_of_ble_eq_true rfl) (fun K hK => ?_)
  obtain ⟨h1, h2, h3, h4, h5, h6, h7, h8, h9, h10, h11, h12⟩ := id h
  generalize hE : (fun c => evL (I 44 0) (I 44 38 - 1) (I 45) (I 66) (colP (I 44 0) (I 65) (fShl 1 (I 44 39) - 1)) (bTw (I 44 0) (I 46) (I 44 38) n c) (I 44 3) (I 44 4) (I 44 5) 0) = E at k
  generalize hM : bMay (I 44 0) (I 46) n = may at k
  have lp : ∀ (q c : Nat) (J : Nat → Nat → Int), c + q = (if n = 1 then 8 else 64) → Fr [67, 68, 69, 70, 71, 72, 73, 74, 75, 76] [(44, 43), (44, 47), (44, 54), (44, 55)] I J → inR (bsS may E c).2.1 → inR (bsS may E c).2.2 → K 10 [some (vR 44), some (vI n), some (vI (bsS may E c).1), some (vI (bsS may E c).2.1), some (vI (bsS may E c).2.2), some (vI c), none, none, none] [] (sh, J, L) (0, 0) := by
    intro q
    induction q with
    | zero =>
      intro c J hc hF i1 i2
      have hb := bsS_bd (may := may) (E := E) c
      have hc2 : c = if n = 1 then 8 else 64 := by omega
      rw [← hc2] at k
      generalize bsS may E c = s at *
      have cb : c ≤ 64 := by rw [hc2]; split <;> omega
      have e0 : J 44 0 = I 44 0 := hF 44 0 (by decide) (by decide)
      have e1 : J 44 38 = I 44 38 := hF 44 38 (by decide) (by decide)
      have e2 : J 46 = I 46 := fn_eq hF 46 (by decide) (by decide)
      have F0 := hF.u 44 43 0 (by simp)
      have a0 : (u2 J 44 43 0) 44 0 = I 44 0 := F0 44 0 (by decide) (by decide)
      have a1 : (u2 J 44 43 0) 44 38 = I 44 38 := F0 44 38 (by decide) (by decide)
      have a2 : (u2 J 44 43 0) 46 = I 46 := fn_eq F0 46 (by decide) (by decide)
      have fin : K 182 [some (vR 44), some (vI n), some (vI s.1), none, none, none, none, none, none] [] (sh, J, L) (0, 0) := by
        refine B_X12_layBest_182 hK hs (n189a := by omega) (kt := fun z => ?_) (kf := fun z => ?_)
        · refine B_X12_layBest_214 hK (k := k _ F0 ?_)
          unfold bsL
          rw [if_pos z]
          exact mLs_nil (by simp [u2])
        · obtain ⟨b, hb2⟩ := Int.eq_ofNat_of_zero_le (show 0 ≤ s.1 by omega)
          have tl : K 207 [none, none, some (vI s.1), none, none, none, none, none, none] [vI (bA n b : Int), vI n, vR 44] (sh, u2 J 44 43 0, L) (0, 0) := by
            refine B_X12_layBest_207 hK hs (n210a := by omega) (k := ?_)
            have md : s.1.tmod 8 = ((b % 8 : Nat) : Int) := by rw [hb2, Int.tmod_eq_emod_of_nonneg (by omega)]; omega
            rw [md]
            have ba : bA n b ≤ b := by unfold bA; split <;> omega
            refine s_layTwo hs (h.lay.fr a0 a1 a2) hn (by omega) (by omega) (fun J2 F2 m2 => ?_)
            rw [a0, a1, a2] at m2
            refine B_X12_layBest_214 hK (k := k J2 (F0.tr F2 (by decide) (by decide) (by decide) (by decide)) ?_)
            unfold bsL
            rw [if_neg z, hb2, Int.toNat_natCast]
            exact m2
          refine B_X12_layBest_192 hK (n196a := hn) (kt := fun y => ?_) (kf := fun y => ?_)
          · refine B_X12_layBest_203 hK (n206a := by omega) (k := ?_)
            have : s.1.tdiv 8 = (bA n b : Int) := by unfold bA; rw [if_neg y, hb2, Int.tdiv_eq_ediv_of_nonneg (by omega)]; omega
            rw [this]
            exact tl
          · refine B_X12_layBest_199 hK (k := ?_)
            have : s.1 = (bA n b : Int) := by unfold bA; rw [if_pos (Classical.not_not.1 y), hb2]
            have tl2 := tl
            rw [← this] at tl2
            exact tl2
      refine B_X12_layBest_10 hK (n14a := hn) (kt := fun y => ?_) (kf := fun y => ?_)
      · rw [if_neg y] at hc2
        refine B_X12_layBest_22 hK (k := ?_)
        exact B_X12_layBest_24 hK (n24a := by omega) (n24b := by decide) (kt := fun _ => fin) (kf := fun z => absurd (by omega) z)
      · rw [if_pos (Classical.not_not.1 y)] at hc2
        refine B_X12_layBest_17 hK (k := ?_)
        exact B_X12_layBest_24 hK (n24a := by omega) (n24b := by decide) (kt := fun _ => fin) (kf := fun z => absurd (by omega) z)
    | succ q ih =>
      intro c J hc hF i1 i2
      have hb := bsS_bd (may := may) (E := E) c
      have go := ih (c + 1)
      have stp : bsS may E (c + 1) = if may c = true ∧ ((bsS may E c).1 = -1 ∨ (E c).1 < (bsS may E c).2.1 ∨ (E c).1 = (bsS may E c).2.1 ∧ (E c).2 < (bsS may E c).2.2) then ((c : Int), E c) else bsS may E c := rfl
      rw [stp] at go
      generalize bsS may E c = s at *
      have cb : c < 64 := by
        have : (if n = 1 then 8 else 64) ≤ 64 := by split <;> omega
        omega
      have e0 : J 44 0 = I 44 0 := hF 44 0 (by decide) (by decide)
      have e1 : J 44 38 = I 44 38 := hF 44 38 (by decide) (by decide)
      have e39 : J 44 39 = I 44 39 := hF 44 39 (by decide) (by decide)
      have e3 : J 44 3 = I 44 3 := hF 44 3 (by decide) (by decide)
      have e4 : J 44 4 = I 44 4 := hF 44 4 (by decide) (by decide)
      have e5 : J 44 5 = I 44 5 := hF 44 5 (by decide) (by decide)
      have e46 : J 46 = I 46 := fn_eq hF 46 (by decide) (by decide)
      have e45 : J 45 = I 45 := fn_eq hF 45 (by decide) (by decide)
      have e65 : J 65 = I 65 := fn_eq hF 65 (by decide) (by decide)
      have e66 : J 66 = I 66 := fn_eq hF 66 (by decide) (by decide)
      have hJ : mGo J P D := h.fr hF (by decide) (by decide)
      have keep : ∀ J2, Fr [67, 68, 69, 70, 71, 72, 73, 74, 75, 76] [(44, 43), (44, 47), (44, 54), (44, 55)] I J2 → ¬ (may c = true ∧ (s.1 = -1 ∨ (E c).1 < s.2.1 ∨ (E c).1 = s.2.1 ∧ (E c).2 < s.2.2)) → K 176 [some (vR 44), some (vI n), some (vI s.1), some (vI s.2.1), some (vI s.2.2), some (vI (c : Int)), none, none, none] [] (sh, J2, L) (0, 0) := fun J2 F2 z => by
        have g := go J2 (by omega) F2
        rw [if_neg z] at g
        exact B_X12_layBest_176 hK (k := g i1 i2)
      have no : ¬ may c = true → K 100 [some (vR 44), some (vI n), some (vI s.1), some (vI s.2.1), some (vI s.2.2), some (vI (c : Int)), some (vI (bA n c : Int)), some (vI ((c % 8 : Nat) : Int)), none] [] (sh, J, L) (0, 0) := fun z => by
        refine B_X12_layBest_100 hK (k := ?_)
        exact B_X12_layBest_101 hK (n105 := by decide) (kt := fun _ => keep J hF (fun y => z y.1)) (kf := fun y => absurd rfl y)
      have ba : bA n c ≤ c := by unfold bA; split <;> omega
      have ba8 : bA n c < 8 := by
        unfold bA
        by_cases z : n = 1
        · rw [if_pos z]
          rw [if_pos z] at hc
          omega
        · rw [if_neg z]
          omega
      have tl : K 42 [some (vR 44), some (vI n), some (vI s.1), some (vI s.2.1), some (vI s.2.2), some (vI (c : Int)), none, none, none] [vI (bA n c : Int)] (sh, J, L) (0, 0) := by
        refine B_X12_layBest_42 hK hs (n48a := by omega) (k := ?_)
        have md : (c : Int).tmod 8 = ((c % 8 : Nat) : Int) := by rw [Int.tmod_eq_emod_of_nonneg (by omega)]; omega
        rw [md]
        refine s_isPlace hs (by omega) (by omega) (fun r hr => ?_)
        rw [e0] at hr
        refine B_X12_layBest_57 hK (n57 := by rw [hr]; split <;> decide) (kt := fun z => no (fun y => ?_)) (kf := fun z1 => ?_)
        · rw [← hM] at y
          have y := of_decide_eq_true y
          rw [hr, if_pos ⟨by omega, y.1⟩] at z
          exact absurd z (by decide)
        · have g1 : (bA n c : Int) < I 44 0 := by
            by_cases y : 0 ≤ (bA n c : Int) ∧ (bA n c : Int) < I 44 0
            · exact y.2
            · rw [hr, if_neg y] at z1; exact absurd rfl z1
          refine B_X12_layBest_60 hK hs (k := ?_)
          refine s_isPlace hs (by omega) (by omega) (fun r hr => ?_)
          rw [e0] at hr
          refine B_X12_layBest_66 hK (n66 := by rw [hr]; split <;> decide) (kt := fun z => no (fun y => ?_)) (kf := fun z2 => ?_)
          · rw [← hM] at y
            have y := of_decide_eq_true y
            rw [hr, if_pos ⟨by omega, y.2.1⟩] at z
            exact absurd z (by decide)
          · have g2 : ((c % 8 : Nat) : Int) < I 44 0 := by
              by_cases y : 0 ≤ ((c % 8 : Nat) : Int) ∧ ((c % 8 : Nat) : Int) < I 44 0
              · exact y.2
              · rw [hr, if_neg y] at z2; exact absurd rfl z2
            refine B_X12_layBest_69 hK (n73a := by omega) (n73b := by omega) (kt := fun z => no (fun y => ?_)) (kf := fun z3 => ?_)
            · rw [← hM] at y
              have y := of_decide_eq_true y
              have := y.2.2.1
              omega
            · refine B_X12_layBest_76 hK hs (b82 := by omega) (n83 := by rw [Int.toNat_natCast, e46]; exact h12 _ ba8) (kt := fun z => no (fun y => ?_)) (kf := fun z4 => ?_)
              · rw [← hM] at y
                have y := of_decide_eq_true y
                rw [Int.toNat_natCast, e46] at z
                exact y.2.2.2.1 z
              · refine B_X12_layBest_86 hK hs (b92 := by omega) (n93 := by rw [Int.toNat_natCast, e46]; exact h12 _ (by omega)) (kt := fun z => no (fun y => ?_)) (kf := fun z5 => ?_)
                · rw [← hM] at y
                  have y := of_decide_eq_true y
                  rw [Int.toNat_natCast, e46] at z
                  exact y.2.2.2.2 z
                · rw [Int.toNat_natCast, e46] at z4 z5
                  have yes : may c = true := by
                    rw [← hM]
                    exact decide_eq_true ⟨g1, g2, by omega, z4, z5⟩
                  refine B_X12_layBest_96 hK (k := ?_)
                  refine B_X12_layBest_101 hK (n105 := by decide) (kt := fun y => absurd y (by decide)) (kf := fun _ => ?_)
                  refine B_X12_layBest_108 hK hs (k := ?_)
                  refine s_layTwo hs hJ.lay hn (by omega) (by omega) (fun J2 F2 m2 => ?_)
                  refine B_X12_layBest_117 hK hs (k := ?_)
                  refine s_allOn hs ?_
                  refine B_X12_layBest_122 hK hs (k := ?_)
                  have hJ2 : mGo J2 P D := hJ.fr F2 (by decide) (by decide)
                  have m3 : mLs J2 (bTw (I 44 0) (I 46) (I 44 38) n c) := by rw [e0, e1, e46] at m2; exact m2
                  have x0 : J2 44 0 = I 44 0 := (F2 44 0 (by decide) (by decide)).trans e0
                  have x1 : J2 44 38 = I 44 38 := (F2 44 38 (by decide) (by decide)).trans e1
                  have x39 : J2 44 39 = I 44 39 := (F2 44 39 (by decide) (by decide)).trans e39
                  have x3 : J2 44 3 = I 44 3 := (F2 44 3 (by decide) (by decide)).trans e3
                  have x4 : J2 44 4 = I 44 4 := (F2 44 4 (by decide) (by decide)).trans e4
                  have x5 : J2 44 5 = I 44 5 := (F2 44 5 (by decide) (by decide)).trans e5
                  have x45 : J2 45 = I 45 := (fn_eq F2 45 (by decide) (by decide)).trans e45
                  have x65 : J2 65 = I 65 := (fn_eq F2 65 (by decide) (by decide)).trans e65
                  have x66 : J2 66 = I 66 := (fn_eq F2 66 (by decide) (by decide)).trans e66
                  have tlen := two_len (P := I 44 0) (D := I 44 38) (k := n) (a := (bA n c : Int)) (b := ((c % 8 : Nat) : Int)) (wd := I 46)
                  refine s_mflowL hs hJ2 m3 (Nat.le_trans tlen (by decide)) (by have := bTw_ok (P := I 44 0) (D := I 44 38) (n := n) (wd := I 46) (c := c); rw [h1, h4] at this; rw [h1, h4]; exact this) (by omega) (by decide) (fun J3 F3 C3 v3 r1 r2' => ?_)
                  have r2 := r2'.1
                  rw [x0, x1, x39, x3, x4, x5, x45, x65, x66] at v3
                  have v4 : (J3 44 54, J3 44 55) = E c := by rw [v3, ← hE]
                  have F23 : Fr [67, 68, 69, 70, 71, 72, 73, 74, 75, 76] [(44, 43), (44, 47), (44, 54), (44, 55)] I J3 := (hF.tr F2 (by decide) (by decide) (by decide) (by decide) (hl3 := [67, 68, 69, 70, 71, 72, 73, 74, 75, 76]) (fl3 := [(44, 43), (44, 47), (44, 54), (44, 55)])).tr F3 (by decide) (by decide) (by decide) (by decide)
                  have w1 : J3 44 54 = (E c).1 := by rw [← v4]
                  have w2 : J3 44 55 = (E c).2 := by rw [← v4]
                  have take : (s.1 = -1 ∨ (E c).1 < s.2.1 ∨ (E c).1 = s.2.1 ∧ (E c).2 < s.2.2) → K 162 [some (vR 44), some (vI n), none, none, none, some (vI (c : Int)), none, none, none] [] (sh, J3, L) (0, 0) := fun z => by
                    have g := go J3 (by omega) F23
                    rw [if_pos ⟨yes, z⟩, ← v4] at g
                    exact B_X12_layBest_162 hK hs (k := B_X12_layBest_176 hK (k := g r1 r2))
                  have kp2 := keep J3 F23
                  rw [w1] at r1
                  rw [w2] at r2
                  refine B_X12_layBest_132 hK (n134a := by omega) (kt := fun z => take (Or.inl z)) (kf := fun z => ?_)
                  refine B_X12_layBest_137 hK hs (n142a := by rw [w1]; exact r1) (n142b := i1) (kt := fun y => take (Or.inr (Or.inl (by rw [w1] at y; exact y)))) (kf := fun y => ?_)
                  rw [w1] at y
                  refine B_X12_layBest_145 hK hs (n150a := by rw [w1]; exact r1) (n150b := i1) (kt := fun x => kp2 (fun t => ?_)) (kf := fun x => ?_)
                  · rw [w1] at x
                    have := t.2
                    omega
                  · have x' := Classical.not_not.1 x
                    rw [w1] at x'
                    refine B_X12_layBest_153 hK hs (n159a := by rw [w2]; exact r2) (n159b := i2) (kt := fun u => kp2 (fun t => ?_)) (kf := fun u => take (Or.inr (Or.inr ⟨x', by rw [w2] at u; omega⟩)))
                    rw [w2] at u
                    have := t.2
                    omega
      have tl27 : K 27 [some (vR 44), some (vI n), some (vI s.1), some (vI s.2.1), some (vI s.2.2), some (vI (c : Int)), none, none, none] [] (sh, J, L) (0, 0) := by
        refine B_X12_layBest_27 hK (n29a := hn) (kt := fun y => ?_) (kf := fun y => ?_)
        · refine B_X12_layBest_37 hK (n41a := by omega) (k := ?_)
          have : (c : Int).tdiv 8 = (bA n c : Int) := by unfold bA; rw [if_neg y, Int.tdiv_eq_ediv_of_nonneg (by omega)]; omega
          rw [this]
          exact tl
        · have : (c : Int) = (bA n c : Int) := by unfold bA; rw [if_pos (Classical.not_not.1 y)]
          refine B_X12_layBest_32 hK (k := ?_)
          rw [← this] at tl
          exact tl
      refine B_X12_layBest_10 hK (n14a := hn) (kt := fun y => ?_) (kf := fun y => ?_)
      · rw [if_neg y] at hc
        refine B_X12_layBest_22 hK (k := ?_)
        exact B_X12_layBest_24 hK (n24a := by omega) (n24b := by decide) (kt := fun z => absurd z (by omega)) (kf := fun _ => tl27)
      · rw [if_pos (Classical.not_not.1 y)] at hc
        refine B_X12_layBest_17 hK (k := ?_)
        exact B_X12_layBest_24 hK (n24a := by omega) (n24b := by decide) (kt := fun z => absurd z (by omega)) (kf := fun _ => tl27)
  exact B_X12_layBest_0 hK (k := lp (if n = 1 then 8 else 64) 0 I (by omega) Fr.rf (show inR 0 by decide) (show inR 0 by decide))
