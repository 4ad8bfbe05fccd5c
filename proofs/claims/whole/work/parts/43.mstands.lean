/-! all stands of a plan -/
theorem skF_cg {D : Int} {sp sp' : Int → Int} (h : ∀ t, 0 ≤ t → t < D → sp t = sp' t) : ∀ f t, 0 ≤ t → skF D sp f t = skF D sp' f t
  | 0, _, _ => rfl
  | f + 1, t, ht => by
    unfold skF
    by_cases z : D ≤ t
    · rw [if_pos z, if_pos z]
    · rw [if_neg z, if_neg z, h t ht (by omega), skF_cg h f (t + 1) (by omega)]
theorem skF_ge {D : Int} {sp : Int → Int} : ∀ f t, t ≤ (skF D sp f t).1
  | 0, t => Int.le_refl _
  | f + 1, t => by
    have := skF_ge (D := D) (sp := sp) f (t + 1)
    unfold skF
    split
    · exact Int.le_refl _
    · split
      · omega
      · exact Int.le_refl _
theorem dif_nn {a b : Int} : 0 ≤ dif a b := by
  unfold dif
  split <;> omega
theorem flF_cg {P D : Int} {wd : Nat → Int} {sp sp' : Int → Int} {k : Nat} {n : Int} (h : ∀ t, 0 ≤ t → t < D → sp t = sp' t) (hn : 0 ≤ n) : ∀ f t last l, 0 ≤ t → flF P wd D sp k n f t last l = flF P wd D sp' k n f t last l
  | 0, _, _, _, _ => rfl
  | f + 1, t, last, l, ht => by
    unfold flF
    rw [skF_cg h 10 t ht]
    have a := skF_ge (D := D) (sp := sp') 10 t
    have b := dif_nn (a := last) (b := (skF D sp' 10 t).2)
    have e0 : 0 ≤ (if last = -1 then 0 else dif last (skF D sp' 10 t).2) := by split <;> omega
    generalize (if last = -1 then 0 else dif last (skF D sp' 10 t).2) = e at *
    rw [flF_cg h hn f _ _ _ (by omega)]
def toL (P : Int) (wd : Nat → Int) (D : Int) (T : Nat → Int) : Nat → List stT
  | 0 => []
  | i + 1 => if T (3 * i) = -1 then toL P wd D T i else addF P wd D (T (3 * i)) (T (3 * i + 1)) (T (3 * i + 2)) (toL P wd D T i)
theorem toL_ok {P D : Int} {wd T : Nat → Int} : ∀ i, (∀ j, j < i → T (3 * j) ≠ -1 → 0 ≤ T (3 * j + 1)) → stOK P D (toL P wd D T i)
  | 0, _ => stOK_nil
  | i + 1, h => by
    unfold toL
    split
    · exact toL_ok i (fun j hj => h j (by omega))
    · exact addF_ok (h i (by omega) (by assumption)) (toL_ok i (fun j hj => h j (by omega)))
theorem toL_len {P D : Int} {wd T : Nat → Int} : ∀ i, (toL P wd D T i).length ≤ i
  | 0 => Nat.le_refl _
  | i + 1 => by
    have a := toL_len (P := P) (D := D) (wd := wd) (T := T) i
    have b := addF_len (P := P) (D := D) (p := T (3 * i)) (f := T (3 * i + 1)) (t := T (3 * i + 2)) (wd := wd) (l := toL P wd D T i)
    unfold toL
    split <;> omega
/-- a plan as it is told: kind, ovens, number, what is told of it -/
def pOK (kind k n : Int) (T : Nat → Int) : Prop := (0 ≤ kind ∧ kind ≤ 4) ∧ (0 ≤ k ∧ k ≤ 4) ∧ (kind = 0 → 0 ≤ n ∧ n ≤ 1000) ∧ ((kind = 1 ∨ kind = 2) → 1 ≤ n ∧ n ≤ 1000) ∧ (kind = 4 → ∀ j, j < 6 → inR (T (3 * j)) ∧ (T (3 * j) ≠ -1 → (0 ≤ T (3 * j + 1) ∧ T (3 * j + 1) ≤ 1000) ∧ inR (T (3 * j + 2))))
/-- its stands in the order in which they are added -/
noncomputable def rawL (P : Int) (F wd : Nat → Int) (bk bd kp D : Int) (men S : Nat → Int) (way : Int) (kind k n : Int) (T : Nat → Int) : List stT :=
  if kind = 0 then addS P wd D n n D k.toNat []
  else if kind = 3 then bsL P wd D k (bsS (bMay P wd k) (fun c => evL P (D - 1) F men (colP P S way) (bTw P wd D k c) bk bd kp 0) (if k = 1 then 8 else 64)).1
  else if kind = 4 then toL P wd D T 6
  else flF P wd D (spD wd (colP P S way) D kind n) k.toNat n 10 0 (-1) []
theorem rawL_ok {P D way kind k n bk bd kp : Int} {F wd men S T : Nat → Int} (h : pOK kind k n T) (hP : 1 ≤ P ∧ P ≤ 8) (hD : D ≤ 10) : stOK P D (rawL P F wd bk bd kp D men S way kind k n T) ∧ (rawL P F wd bk bd kp D men S way kind k n T).length ≤ 40 := by
  obtain ⟨h1, h2, h3, h4, h5⟩ := h
  have cb : ∀ d, 0 ≤ colP P S way d ∧ colP P S way d < 8 := fun d => by
    have := colP_bd (P := P) (S := S) (way := way) hP.1 d
    omega
  unfold rawL
  by_cases z0 : kind = 0
  · rw [if_pos z0]
    have a := addS_len (P := P) (D := D) (p := n) (f := n) (t := D) (wd := wd) (l := []) k.toNat
    have l0 : ([] : List stT).length = 0 := rfl
    exact ⟨addS_ok (h3 z0).1 stOK_nil _, by omega⟩
  · rw [if_neg z0]
    by_cases z3 : kind = 3
    · rw [if_pos z3]
      exact ⟨bsL_ok, Nat.le_trans bsL_len (by decide)⟩
    · rw [if_neg z3]
      by_cases z4 : kind = 4
      · rw [if_pos z4]
        exact ⟨toL_ok 6 (fun j hj q => ((h5 z4 j hj).2 q).1.1), Nat.le_trans (toL_len 6) (by decide)⟩
      · rw [if_neg z4]
        have hn := h4 (by omega)
        exact ⟨flF_ok (fun t => spD_bd cb) (by omega) 10 0 (-1) [] (by omega) (by omega) stOK_nil, flF_len (fun t => spD_bd cb) hn.1 hD (by omega) 10 0 (-1) [] (by omega) (by omega) (by simp) (by decide)⟩
set_option maxHeartbeats 1000000 in
theorem s_layStands {sh : oS} {I : Nat → Nat → Int} {L : Nat → Nat → Int64} {Q : oQ} (hs : Sh sh) {P D p : Nat} {more : Int} (h : mGo I P D) (hD : 1 ≤ D) (hp : p < 8) (ho : pOK (I 52 p) (I 53 p + more) (I 54 p) (fun x => I 55 (18 * p + x)))
    (k : ∀ J l, Fr [67, 68, 69, 70, 71, 72, 73, 74, 75, 76] [(44, 43), (44, 47), (44, 54), (44, 55)] I J → mLs J l → (rawL (I 44 0) (I 45) (I 46) (I 44 3) (I 44 4) (I 44 5) (I 44 38) (I 66) (I 65) (fShl 1 (I 44 39) - 1) (I 52 p) (I 53 p + more) (I 54 p) (fun x => I 55 (18 * p + x))).Perm l → l.Pairwise nAh → Q none (sh, J, L)) : T_X12_layStands [vR 44, vI p, vI more] (sh, I, L) Q := by
  refine And.intro (Nat.le_of_ble_eq_true rfl) (fun K hK => ?_)
  obtain ⟨h1, h2, h3, h4, h5, h6, h7, h8, h9, h10, h11, h12⟩ := id h
  have rok := rawL_ok (P := I 44 0) (D := I 44 38) (way := fShl 1 (I 44 39) - 1) (bk := I 44 3) (bd := I 44 4) (kp := I 44 5) (F := I 45) (wd := I 46) (men := I 66) (S := I 65) ho (by omega) (by omega)
  obtain ⟨o1, o2, o3, o4, o5⟩ := ho
  refine B_X12_layStands_0 hK hs (k := ?_)
  refine s_allOn hs ?_
  refine B_X12_layStands_5 hK hs (k := ?_)
  refine s_mwalk hs h4 h5 (by omega) h10 (fun J1 F1 C1 => ?_)
  have F0 : Fr [67, 68, 69, 70, 71, 72, 73, 74, 75, 76] [(44, 43), (44, 47), (44, 54), (44, 55)] I (u2 J1 44 43 0) := (F1.mono (by decide) (by decide)).u 44 43 0 (by simp)
  have q52 : J1 52 p = I 52 p := F1 52 p (by decide) (by simp)
  have q53 : J1 53 p = I 53 p := F1 53 p (by decide) (by simp)
  have q54 : J1 54 p = I 54 p := F1 54 p (by decide) (by simp)
  have C0 : ∀ d, d < D → (u2 J1 44 43 0) 67 d = colP (I 44 0) (I 65) (fShl 1 (I 44 39) - 1) d := fun d hd => by
    rw [← C1 d hd]
    simp [u2]
  have n0 : mLs (u2 J1 44 43 0) [] := mLs_nil (by simp [u2])
  have end' : ∀ J l, Fr [67, 68, 69, 70, 71, 72, 73, 74, 75, 76] [(44, 43), (44, 47), (44, 54), (44, 55)] I J → mLs J l → l = rawL (I 44 0) (I 45) (I 46) (I 44 3) (I 44 4) (I 44 5) (I 44 38) (I 66) (I 65) (fShl 1 (I 44 39) - 1) (I 52 p) (I 53 p + more) (I 54 p) (fun x => I 55 (18 * p + x)) → K 157 [some (vR 44), none, none, none, none, none, none, none] [] (sh, J, L) (0, 0) := by
    intro J l hF hl he
    refine B_X12_layStands_157 hK hs (k := ?_)
    rw [← he] at rok k
    refine s_sortStands hs hl rok.2 rok.1 (by omega) (by omega) (fun J2 l2 F2 m2 p2 w2 => ?_)
    exact B_X12_layStands_161 hK (k := k J2 l2 (hF.tr F2 (by decide) (by decide) (by decide) (by decide)) m2 p2 w2)
  unfold rawL at end'
  obtain ⟨J0, hJ0⟩ : ∃ J0, J0 = u2 J1 44 43 0 := ⟨_, rfl⟩
  rw [← hJ0] at F0 C0 n0
  have a0 : J0 44 0 = I 44 0 := F0 44 0 (by decide) (by decide)
  have a1 : J0 44 38 = I 44 38 := F0 44 38 (by decide) (by decide)
  have a3 : J0 44 3 = I 44 3 := F0 44 3 (by decide) (by decide)
  have a4 : J0 44 4 = I 44 4 := F0 44 4 (by decide) (by decide)
  have a5 : J0 44 5 = I 44 5 := F0 44 5 (by decide) (by decide)
  have a39 : J0 44 39 = I 44 39 := F0 44 39 (by decide) (by decide)
  have a46 : J0 46 = I 46 := fn_eq F0 46 (by decide) (by decide)
  have a45 : J0 45 = I 45 := fn_eq F0 45 (by decide) (by decide)
  have a65 : J0 65 = I 65 := fn_eq F0 65 (by decide) (by decide)
  have a66 : J0 66 = I 66 := fn_eq F0 66 (by decide) (by decide)
  have a55 : J0 55 = I 55 := fn_eq F0 55 (by decide) (by decide)
  have g0 : mGo J0 P D := h.fr F0 (by decide) (by decide)
  refine B_X12_layStands_8 hK hs (b18 := by omega) (n39 := by rw [Int.toNat_natCast, q52]; omega) (kt := fun z => ?_) (kf := fun z => ?_)
  all_goals rw [← hJ0]
  all_goals simp only [Int.toNat_natCast, q52, q53, q54] at z ⊢
  · rw [if_neg z] at end'
    refine B_X12_layStands_59 hK (n61a := by omega) (kt := fun z3 => ?_) (kf := fun z3 => ?_)
    · rw [if_neg z3] at end'
      refine B_X12_layStands_73 hK (n75a := by omega) (kt := fun z4 => ?_) (kf := fun z4 => ?_)
      · rw [if_neg z4] at end'
        refine B_X12_layStands_148 hK hs (k := ?_)
        have hn := o4 (by omega)
        obtain ⟨m, hm⟩ := Int.eq_ofNat_of_zero_le o2.1
        have cb := fun u => colP_bd (P := I 44 0) (S := I 65) (way := fShl 1 (I 44 39) - 1) (by omega) u
        rw [hm] at end' o2 ⊢
        rw [Int.toNat_natCast] at end'
        refine s_layFollow hs g0.lay n0 (by omega) (by omega) hn (fun d hd => by rw [C0 d (by omega)]; have := cb d; omega) (fun J2 F2 m2 => ?_)
        rw [a0, a1, a46] at m2
        refine end' J2 _ (F0.tr F2 (by decide) (by decide) (by decide) (by decide)) m2 ?_
        refine flF_cg (fun t ht ht2 => ?_) (by omega) 10 0 (-1) [] (by omega)
        unfold spD
        have y : 0 ≤ (if (if I 52 p = 2 then t + I 54 p else t) < I 44 38 then (if I 52 p = 2 then t + I 54 p else t) else I 44 38 - 1) ∧ (if (if I 52 p = 2 then t + I 54 p else t) < I 44 38 then (if I 52 p = 2 then t + I 54 p else t) else I 44 38 - 1) < I 44 38 := by
          split <;> (try split) <;> omega
        rw [C0 _ (by omega)]
      · rw [if_pos (Classical.not_not.1 z4)] at end'
        refine B_X12_layStands_78 hK (k := ?_)
        have lp : ∀ (q i : Nat) (J : Nat → Nat → Int), i + q = 6 → Fr [67, 68, 69, 70, 71, 72, 73, 74, 75, 76] [(44, 43), (44, 47), (44, 54), (44, 55)] I J → mLs J (toL (I 44 0) (I 46) (I 44 38) (fun x => I 55 (18 * p + x)) i) → K 81 [some (vR 44), some (vI p), none, none, none, none, some (vI i), none] [] (sh, J, L) (0, 0) := by
          intro q
          induction q with
          | zero =>
            intro i J hi hF hJ
            have : i = 6 := by omega
            subst this
            refine B_X12_layStands_81 hK (n85a := by decide) (kt := fun _ => ?_) (kf := fun z => absurd (by decide) z)
            exact B_X12_layStands_145 hK (k := end' J _ hF hJ rfl)
          | succ q ih =>
            intro i J hi hF hJ
            have b0 : J 44 0 = I 44 0 := hF 44 0 (by decide) (by decide)
            have b1 : J 44 38 = I 44 38 := hF 44 38 (by decide) (by decide)
            have b46 : J 46 = I 46 := fn_eq hF 46 (by decide) (by decide)
            have b55 : J 55 = I 55 := fn_eq hF 55 (by decide) (by decide)
            have ti := o5 (Classical.not_not.1 z4) i (by omega)
            have gi := ih (i + 1)
            unfold toL at gi
            have len := toL_len (P := I 44 0) (D := I 44 38) (wd := I 46) (T := fun x => I 55 (18 * p + x)) i
            have ea : (18 * (p : Int) + 3 * (i : Int)).toNat = 18 * p + 3 * i := by omega
            have ea1 : (18 * (p : Int) + 3 * (i : Int) + 1).toNat = 18 * p + (3 * i + 1) := by omega
            have ea2 : (18 * (p : Int) + 3 * (i : Int) + 2).toNat = 18 * p + (3 * i + 2) := by omega
            simp only [] at ti gi
            refine B_X12_layStands_81 hK (n85a := by omega) (kt := fun z => absurd z (by omega)) (kf := fun _ => ?_)
            refine B_X12_layStands_88 hK hs (b105 := by omega) (n107a := by rw [ea, b55]; exact ti.1) (kt := fun y => ?_) (kf := fun y => ?_)
            · rw [ea, b55] at y
              refine B_X12_layStands_139 hK (k := ?_)
              have g := gi J (by omega) hF
              rw [if_pos y] at g
              exact g hJ
            · rw [ea, b55] at y
              refine B_X12_layStands_110 hK hs (b117 := by omega) (b126 := by omega) (b135 := by omega) (k := ?_)
              rw [ea, ea1, ea2, b55]
              have t2 := ti.2 y
              refine s_add hs (h.lay.fr b0 b1 b46) hJ (by omega) ti.1 (by omega) t2.2 (fun J2 F2 m2 => ?_)
              rw [b0, b1, b46] at m2
              refine B_X12_layStands_139 hK (k := ?_)
              have g := gi J2 (by omega) (hF.tr F2 (by decide) (by decide) (by decide) (by decide))
              rw [if_neg y] at g
              exact g m2
        exact lp 6 0 J0 (by omega) F0 n0
    · rw [if_pos (Classical.not_not.1 z3)] at end'
      refine B_X12_layStands_64 hK hs (k := ?_)
      refine s_layBest hs g0 hD (by omega) (fun J2 F2 m2 => ?_)
      rw [a0, a1, a3, a4, a5, a39, a45, a46, a65, a66] at m2
      exact B_X12_layStands_70 hK (k := end' J2 _ (F0.tr F2 (by decide) (by decide) (by decide) (by decide)) m2 rfl)
  · rw [if_pos (Classical.not_not.1 z)] at end'
    refine B_X12_layStands_42 hK hs (k := ?_)
    obtain ⟨m, hm⟩ := Int.eq_ofNat_of_zero_le o2.1
    have hn := o3 (Classical.not_not.1 z)
    rw [hm] at end' o2 ⊢
    rw [Int.toNat_natCast] at end'
    rw [a1]
    refine s_addSome hs g0.lay n0 (by simp; omega) (by omega) (by omega) (by omega) (fun J2 F2 m2 => ?_)
    rw [a0, a1, a46] at m2
    exact B_X12_layStands_56 hK (k := end' J2 _ (F0.tr F2 (by decide) (by decide) (by decide) (by decide)) m2 rfl)
