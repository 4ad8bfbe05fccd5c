/-! how many a list of stands feeds, and how far it is carried -/
theorem cBest_cg {cp cp' w w' : Nat → Int} {v c : Int} (h : cBest cp w v c) (h1 : ∀ l, l < 1994 → cp l = cp' l) (h2 : ∀ l, l < 1994 → cp l ≠ 0 → w l = w' l) : cBest cp' w' v c := by
  obtain ⟨phi, R, pi, ⟨a1, a2⟩, b1, b2, b3, b4, b5, b6, b7, b8⟩ := h
  refine ⟨phi, R, pi, ⟨fun l hl => by rw [← h1 l hl]; exact a1 l hl, a2⟩, b1, b2, fun l hl q => b3 l hl (by rw [h1 l hl]; exact q), b4, b5, fun l hl q => ?_, fun l hl q => ?_, ?_⟩
  · rw [← h1 l hl] at q
    have := a1 l hl
    rw [← h2 l hl (by omega)]
    exact b6 l hl q
  · have := a1 l hl
    rw [← h2 l hl (by omega)]
    exact b7 l hl q
  · rw [b8]
    apply sm_congr
    intro l hl
    by_cases z : cp l = 0
    · have := a1 l hl
      rw [show phi l = 0 by omega, Int.mul_zero, Int.mul_zero]
    · rw [h2 l hl z]
noncomputable def bV (cp w : Nat → Int) : Int × Int := Classical.epsilon (fun p : Int × Int => cBest cp w p.1 p.2)
theorem bV_is {cp w : Nat → Int} {v c : Int} (h : cBest cp w v c) : bV cp w = (v, c) := by
  have g : cBest cp w (bV cp w).1 (bV cp w).2 := Classical.epsilon_spec (p := fun p : Int × Int => cBest cp w p.1 p.2) ⟨(v, c), h⟩
  have := g.un h
  exact Prod.ext this.1 this.2
theorem sm_crude {n : Nat} {f : Nat → Int} {b : Int} (h : ∀ i, i < n → 0 ≤ f i ∧ f i ≤ b) : 0 ≤ sm n f ∧ sm n f ≤ n * b := by
  refine ⟨sm_nn (fun i hi => (h i hi).1), ?_⟩
  induction n with
  | zero => simp [sm]
  | succ n ih =>
    have a := ih (fun i hi => h i (by omega))
    have d := h n (by omega)
    show sm n f + f n ≤ _
    rw [show ((n + 1 : Nat) : Int) * b = n * b + b by rw [Int.natCast_add, Int.add_mul]; simp]
    omega
theorem cBest_bd {cp w : Nat → Int} {v c : Int} (h : cBest cp w v c) (h1 : ∀ l, l < 1994 → 0 ≤ cp l ∧ cp l ≤ 100000) (h2 : ∀ l, l < 1994 → 0 ≤ w l ∧ w l ≤ 7) : (0 ≤ v ∧ v ≤ 199400000) ∧ 0 ≤ c ∧ c ≤ 1395800000 := by
  obtain ⟨phi, R, pi, ⟨a1, a2⟩, b1, b2, b3, b4, b5, b6, b7, b8⟩ := h
  constructor
  · have e : bal 1994 cU cV phi 1 = sm 1994 (fun l => if cV l = 1 then phi l else 0) := by
      unfold bal
      apply sm_congr
      intro l hl
      have : cU l ≠ 1 := by
        unfold cU
        repeat' split
        all_goals omega
      rw [if_neg this]
      omega
    have g := sm_crude (n := 1994) (f := fun l => if cV l = 1 then phi l else 0) (b := 100000) (fun l hl => by
      have x1 := a1 l hl
      have x2 := h1 l hl
      show 0 ≤ (if cV l = 1 then phi l else 0) ∧ (if cV l = 1 then phi l else 0) ≤ 100000
      split <;> omega)
    rw [b5, e]
    omega
  · have g := sm_crude (n := 1994) (f := fun l => w l * phi l) (b := 700000) (fun l hl => by
      have x1 := a1 l hl
      have x2 := h1 l hl
      have x3 := h2 l hl
      refine ⟨Int.mul_nonneg x3.1 x1.1, ?_⟩
      have y1 : w l * phi l ≤ 7 * phi l := Int.mul_le_mul_of_nonneg_right x3.2 x1.1
      show w l * phi l ≤ 700000
      omega)
    rw [b8]
    omega
def capL (P last : Int) (F men col : Nat → Int) (l : List stT) (bk bd kp so : Int) : Nat → Int := capJ P last F men col l.length (fun i => (stG l i).1) (fun i => (stG l i).2.1) (fun i => (stG l i).2.2) bk bd kp so
theorem capJ_bd {P : Nat} {last : Int} {F men col : Nat → Int} {n : Nat} {pl fr to : Nat → Int} {bk bd kp so : Int} (hF : ∀ p, p < P → 0 ≤ F p ∧ F p ≤ 100000) (hM : ∀ u : Nat, (u : Int) ≤ last → 0 ≤ men u ∧ men u ≤ 99) (hbk : 0 ≤ bk ∧ bk ≤ 1000) (hn : n ≤ 40) (l : Nat) : 0 ≤ capJ P last F men col n pl fr to bk bd kp so l ∧ capJ P last F men col n pl fr to bk bd kp so l ≤ 100000 := by
  have r0 : ∀ j, 0 ≤ rJ P last n pl fr to bk bd so j := fun j => rJ_nn hbk.1 j
  have r1 : ∀ j, rJ P last n pl fr to bk bd so j ≤ 40000 := fun j => rJ_le hbk hn j
  have FJ0 : ∀ p, 0 ≤ FJ P F p ∧ FJ P F p ≤ 100000 := fun p => by
    unfold FJ
    split
    · exact hF p (by omega)
    · omega
  have MJ0 : ∀ u, 0 ≤ MJ last men u ∧ MJ last men u ≤ 99 := fun u => by
    unfold MJ
    split
    · exact hM u (by omega)
    · omega
  unfold capJ
  refine ⟨cC_nn (fun p => (FJ0 p).1) (fun u => (MJ0 u).1) r0 l, ?_⟩
  unfold cC
  repeat' split
  · exact (FJ0 _).2
  · have := (MJ0 (l - 8)).2; omega
  all_goals first | omega | (have := r1 (l - 18); omega) | (have := r1 (l - 170); omega) | (have := r1 (l - 322); omega) | (have := r1 ((l - 474) / 10); omega)
/-- hungry and carried, for a list of stands -/
noncomputable def evL (P last : Int) (F men col : Nat → Int) (l : List stT) (bk bd kp so : Int) : Int × Int := (sm (last + 1).toNat men - (bV (capL P last F men col l bk bd kp so) (cW col)).1, (bV (capL P last F men col l bk bd kp so) (cW col)).2)
theorem capJ_l {I : Nat → Nat → Int} {l : List stT} (hl : mLs I l) (P last : Int) (F men col : Nat → Int) (bk bd kp so : Int) : capJ P last F men col l.length (I 68) (I 69) (I 70) bk bd kp so = capL P last F men col l bk bd kp so := by
  unfold capL capJ
  have e : rJ P last l.length (I 68) (I 69) (I 70) bk bd so = rJ P last l.length (fun i => (stG l i).1) (fun i => (stG l i).2.1) (fun i => (stG l i).2.2) bk bd so := by
    funext j
    unfold rJ bkc
    rw [sm_congr (fun i hi => by rw [(hl.2 i hi).1, (hl.2 i hi).2.1, (hl.2 i hi).2.2])]
  rw [e]
/-- what is asked ahead of a flow, but for the stands -/
def mGo (I : Nat → Nat → Int) (P D : Nat) : Prop := I 44 0 = (P : Int) ∧ 1 ≤ P ∧ P ≤ 8 ∧ I 44 38 = (D : Int) ∧ D ≤ 10 ∧ (0 ≤ I 44 3 ∧ I 44 3 ≤ 1000) ∧ (0 ≤ I 44 4 ∧ I 44 4 ≤ 1000) ∧ (0 ≤ I 44 5 ∧ I 44 5 ≤ 1000) ∧ (∀ p, p < P → 0 ≤ I 45 p ∧ I 45 p ≤ 100000) ∧ (∀ d, d < D → -1 ≤ I 65 d ∧ I 65 d ≤ 2) ∧ (∀ d, d < D → 0 ≤ I 66 d ∧ I 66 d ≤ 99) ∧ (∀ p, p < 8 → inR (I 46 p))
theorem mGo.lay {I : Nat → Nat → Int} {P D : Nat} (h : mGo I P D) : mLay I := by
  obtain ⟨h1, h2, h3, h4, h5, h6, h7, h8, h9, h10, h11, h12⟩ := h
  exact ⟨by omega, by omega, h12⟩
theorem mGo.fr {I J : Nat → Nat → Int} {P D : Nat} {hl : List Nat} {fl : List (Nat × Nat)} (h : mGo I P D) (F : Fr hl fl I J) (q1 : ∀ x ∈ [44, 45, 46, 65, 66], x ∉ hl) (q2 : ∀ x ∈ fl, x ∉ [(44, 0), (44, 38), (44, 3), (44, 4), (44, 5)] ∧ x.1 ≠ 45 ∧ x.1 ≠ 46 ∧ x.1 ≠ 65 ∧ x.1 ≠ 66) : mGo J P D := by
  have e : ∀ k, (44, k) ∈ [(44, 0), (44, 38), (44, 3), (44, 4), (44, 5)] → J 44 k = I 44 k := fun k hk => F 44 k (q1 44 (by decide)) (fun z => (q2 _ z).1 hk)
  have e45 := fn_eq F 45 (q1 45 (by decide)) (fun x hx => (q2 x hx).2.1)
  have e46 := fn_eq F 46 (q1 46 (by decide)) (fun x hx => (q2 x hx).2.2.1)
  have e65 := fn_eq F 65 (q1 65 (by decide)) (fun x hx => (q2 x hx).2.2.2.1)
  have e66 := fn_eq F 66 (q1 66 (by decide)) (fun x hx => (q2 x hx).2.2.2.2)
  unfold mGo
  rw [e 0 (by decide), e 38 (by decide), e 3 (by decide), e 4 (by decide), e 5 (by decide), e45, e46, e65, e66]
  exact h
theorem s_mflowL {sh : oS} {I : Nat → Nat → Int} {L : Nat → Nat → Int64} {Q : oQ} (hs : Sh sh) {P D : Nat} {way last so : Int} {l : List stT} (h : mGo I P D) (hl : mLs I l) (hn : l.length ≤ 40) (ho : stOK P D l) (hla : 0 ≤ last ∧ last < D) (hso : 0 ≤ so ∧ so ≤ 9)
    (k : ∀ J, Fr [67, 71, 72, 73, 74, 75, 76] [(44, 47), (44, 54), (44, 55)] I J → (∀ d, d < D → J 67 d = colP (I 44 0) (I 65) way d) → (J 44 54, J 44 55) = evL (I 44 0) last (I 45) (I 66) (colP (I 44 0) (I 65) way) l (I 44 3) (I 44 4) (I 44 5) so → inR (J 44 54) → (inR (J 44 55) ∧ (0 ≤ J 44 54 ∧ J 44 54 ≤ 990) ∧ 0 ≤ J 44 55 ∧ J 44 55 ≤ 13860) → Q none (sh, J, L)) : T_X12_flow [vR 44, vI way, vI last, vI so] (sh, I, L) Q := by
  obtain ⟨h1, h2, h3, h4, h5, h6, h7, h8, h9, h10, h11, h12⟩ := h
  have pre : mPre I P l.length D := ⟨h1, h2, h3, hl.1, hn, h4, h5, h6, h7, h8, h9, h10, h11, fun i hi => by
    have a := hl.2 i hi
    have b := ho _ (stG_m hi)
    rw [a.1, a.2.1, a.2.2]
    omega⟩
  refine s_mflow hs pre hla hso (fun J v c F C hb e1 e2 => ?_)
  unfold mCap at hb
  rw [capJ_l hl] at hb
  have cb : ∀ u, 0 ≤ colP (I 44 0) (I 65) way u ∧ colP (I 44 0) (I 65) way u ≤ 7 := fun u => by
    have := colP_bd (P := I 44 0) (S := I 65) (way := way) (by omega) u
    omega
  have hv := bV_is hb
  have b := cBest_bd hb (fun l' _ => by unfold capL; rw [h1]; exact capJ_bd (last := last) h9 (fun u hu => h11 u (by omega)) h6 hn l') (fun l' hl' => cW_bd (fun u _ => cb u) hl')
  refine k J F C ?_ ?_ ?_
  · unfold evL
    rw [hv, e1, e2]
  · have s := sm_crude (n := (last + 1).toNat) (f := I 66) (b := 99) (fun i hi => h11 i (by omega))
    rw [e1]
    omega
  · have s := sm_crude (n := (last + 1).toNat) (f := I 66) (b := 99) (fun i hi => h11 i (by omega))
    have t1 := cBest_14 hb (fun l' hl' => cW_bd (fun u _ => cb u) hl') (fun l' hl' => by unfold cW; rw [if_pos hl'])
    have t2 := cBest_men hb
    have t3 : sm 10 (fun u => capL (I 44 0) last (I 45) (I 66) (colP (I 44 0) (I 65) way) l (I 44 3) (I 44 4) (I 44 5) so (8 + u)) = sm (last + 1).toNat (I 66) := by
      rw [sm_congr (n := 10) (g := fun u => MJ last (I 66) u) (fun u hu => by
        unfold capL capJ cC
        rw [if_neg (by omega), if_pos (by omega), show 8 + u - 8 = u by omega])]
      rw [show (10 : Nat) = (last + 1).toNat + (10 - (last + 1).toNat) by omega, sm_split, sm_zero' (n := 10 - (last + 1).toNat) (fun i hi => by unfold MJ; exact if_neg (by omega)), Int.add_zero]
      exact sm_congr (fun i hi => by unfold MJ; exact if_pos (by omega))
    rw [t3] at t2
    rw [e1, e2]
    omega
