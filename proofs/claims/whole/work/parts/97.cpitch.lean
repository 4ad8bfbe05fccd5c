/-! the class pitches: bases, those that follow, those told -/
abbrev FrK (I J : Nat → Nat → Int) : Prop := Fr [26, 27, 28, 29, 30, 32, 33, 34, 35, 36, 37, 38, 39, 40] [(25, 3), (31, 9), (31, 10), (31, 11), (31, 12), (31, 13), (24, 4), (24, 5)] I J
theorem stSm_ok {P D : Int} {l : List stT} (h : stOK P D l) (hP : P ≤ 1000) (hD : D ≤ 1000) : stSm l := fun s hs => by
  have := h s hs
  omega
theorem addF_10 {P D p f : Int} {wd : Nat → Int} {l : List stT} (h : D ≤ 10) : addF P wd D p f 10 l = addF P wd D p f D l := by
  unfold addF
  rw [if_pos (show D - 1 ≤ 10 by omega), if_pos (show D - 1 ≤ D by omega)]
/-- land and march stand as they are -/
def sameLM (I J : Nat → Nat → Int) (hl hf hw hm : Nat) : Prop := J hl = I hl ∧ J hf = I hf ∧ J hw = I hw ∧ J hm = I hm ∧ J (hm + 1) = I (hm + 1) ∧ J (hm + 2) = I (hm + 2) ∧ J (hm + 3) = I (hm + 3)
theorem FrK.lm {I J : Nat → Nat → Int} (F : FrK I J) {sh : oS} {hl hf hw hm : Nat} (A : LA sh hl hf hw) (M : MA sh hm) : sameLM I J hl hf hw hm := by
  have a := A.2
  have b := M.2
  have key : ∀ h, (h < 24 ∨ 77 ≤ h) → J h = I h := fun h hh => by
    funext x
    exact F h x (by simp <;> omega) (by simp <;> omega)
  exact ⟨key _ (by omega), key _ (by omega), key _ (by omega), key _ (by omega), key _ (by omega), key _ (by omega), key _ (by omega)⟩
theorem lHas.eq {I J : Nat → Nat → Int} {hl hf hw hm P : Nat} (h : lHas I hl hf hw P) (s : sameLM I J hl hf hw hm) : lHas J hl hf hw P := by
  unfold lHas
  rw [s.1, s.2.1, s.2.2.1]
  exact h
theorem mHas.eq {I J : Nat → Nat → Int} {hl hf hw hm D : Nat} (h : mHas I hm D) (s : sameLM I J hl hf hw hm) : mHas J hm D := by
  unfold mHas
  rw [s.2.2.2.1, s.2.2.2.2.1, s.2.2.2.2.2.1]
  exact h
theorem FrW.c {I J : Nat → Nat → Int} (F : FrW I J) : FrK I J := F.mono (by decide) (by decide)
theorem FrK.t {I J K : Nat → Nat → Int} (F : FrK I J) (G : FrK J K) : FrK I K := F.tr G (fun _ h => h) (fun _ h => h) (fun _ h => Or.inr h) (fun _ h => Or.inr h)
/-- a plan's cell stands as it is -/
theorem FrK.g {I J : Nat → Nat → Int} (F : FrK I J) {g : Nat} (hg : g = 19 ∨ g = 20 ∨ g = 21 ∨ g = 22 ∨ 77 ≤ g) : J g = I g := by
  funext x
  exact F g x (by simp <;> omega) (by simp <;> omega)
theorem s_addC {sh : oS} {I : Nat → Nat → Int} {L : Nat → Nat → Int64} {Q : oQ} (hs : Sh sh) {hl hf hw hm P D : Nat} (A : LA sh hl hf hw) (M : MA sh hm) {p f t : Int} {l : List stT} (hL : lHas I hl hf hw P) (hM : mHas I hm D) (hp : inR p) (hff : inR f) (ht : inR t) (hc : cSt I l) (hn : l.length < 30) (ho : stOK P D l)
    (k : ∀ J, FrW I J → cSt J (addF P (I hw) D p f t l) → Q none (sh, J, L)) : T_X9_add [vR 25, vR hl, vR hm, vI p, vI f, vI t] (sh, I, L) Q := by
  obtain ⟨h1, h2, -, -, -, -, h7⟩ := hL
  have D1 := hM.1
  have D2 := hM.2.1
  refine s_cadd hs A.1 M (by omega) (by omega) (fun x hx => by have := h7 x (by omega); omega) hp hff ht hc hn (stSm_ok ho (by omega) (by omega)) (fun J F c => k J F ?_)
  rw [h1, D1] at c
  exact c
theorem s_pitch0 {sh : oS} {I : Nat → Nat → Int} {L : Nat → Nat → Int64} {Q : oQ} (hs : Sh sh) {hl hf hw hm P D g k : Nat} (A : LA sh hl hf hw) (M : MA sh hm) (hg : sK sh g ∈ [0, 1, 3, 5, 10]) (hg2 : g = 19 ∨ 77 ≤ g) (hL : lHas I hl hf hw P) (hM : mHas I hm D) (hk : k ≤ 3) (hn : 0 ≤ I g 1 ∧ I g 1 ≤ 1000)
    (kk : ∀ J, FrK I J → cSt J (addS P (I hw) D (I g 1) (I g 1) D k []) → Q none (sh, J, L)) : T_X0_pitch [vR g, vR 24, vR hl, vR hm, vI (k : Int)] (sh, I, L) Q := by
  refine And.intro (Nat.le_of_ble_eq_true rfl) (fun K hK => ?_)
  have D2 := hM.2.1
  refine B_X0_pitch_0 hK hs (k := ?_)
  have lp : ∀ (d i : Nat) (J : Nat → Nat → Int), i + d = k → FrK I J → cSt J (addS P (I hw) D (I g 1) (I g 1) D i []) → K 11 [some (vR g), some (vR 24), some (vR hl), some (vR hm), some (vI (k : Int)), some (vI (i : Int))] [] (sh, J, L) (0, 0) := by
    intro d
    induction d with
    | zero =>
      intro i J hi F c
      refine B_X0_pitch_11 hK (n15a := by omega) (n15b := by omega) (kt := fun _ => ?_) (kf := fun z => absurd (by omega) z)
      have : i = k := by omega
      subst this
      exact B_X0_pitch_43 hK (k := kk J F c)
    | succ d ih =>
      intro i J hi F c
      refine B_X0_pitch_11 hK (n15a := by omega) (n15b := by omega) (kt := fun z => absurd z (by omega)) (kf := fun _ => ?_)
      refine B_X0_pitch_18 hK hs (kh0_0 := hg) (k := ?_)
      have s := F.lm A M
      rw [F.g (by omega)]
      have len := addS_len (P := P) (wd := I hw) (D := D) (p := I g 1) (f := I g 1) (t := D) (l := []) i
      refine s_addC hs A M (hL.eq s) (hM.eq s) (by omega) (by omega) (by decide) c (by simp at len; omega) (addS_ok hn.1 stOK_nil i) (fun J2 F2 c2 => ?_)
      refine B_X0_pitch_37 hK (k := ?_)
      refine ih (i + 1) J2 (by omega) (F.t F2.c) ?_
      rw [s.2.2.1, addF_10 (by omega)] at c2
      exact c2
  exact lp k 0 _ (by omega) (Fr.rf.u 25 3 0 (by simp)) (cSt.nil uA)
theorem s_lastWood {sh : oS} {I : Nat → Nat → Int} {L : Nat → Nat → Int64} {Q : oQ} {hl hf hw P : Nat} (A : LA sh hl hf hw) (hL : lHas I hl hf hw P) {c : Int} (hc : 0 ≤ c ∧ c < P) (k : Q (some (vI (spF (I hw) (c + 1).toNat))) (sh, I, L)) : T_X4_lastWood [vR hl, vI c] (sh, I, L) Q := by
  refine And.intro (Nat.le_of_ble_eq_true rfl) (fun K hK => ?_)
  obtain ⟨h1, h2, -, -, -, -, h7⟩ := hL
  refine B_X4_lastWood_0 hK (Ah0 := A.1) (n7a := by omega) (n7b := by omega) (k := ?_)
  have fm : fMin c (I hl 0 - 1) = c := by unfold fMin; rw [if_neg (by omega)]
  rw [fm]
  have lp : ∀ n : Nat, n ≤ P → Q (some (vI (spF (I hw) n))) (sh, I, L) → K 11 [some (vR hl), none, some (vI ((n : Int) - 1))] [] (sh, I, L) (0, 0) := by
    intro n
    induction n with
    | zero =>
      intro _ q
      refine B_X4_lastWood_11 hK (n12 := by decide) (kt := fun _ => ?_) (kf := fun z => absurd (by decide) z)
      exact B_X4_lastWood_33 hK (k := q)
    | succ n ih =>
      intro hn q
      have w := h7 n (by omega)
      have tn : (((n + 1 : Nat) : Int) - 1).toNat = n := by omega
      refine B_X4_lastWood_11 hK (n12 := by omega) (kt := fun z => absurd z (by omega)) (kf := fun _ => ?_)
      unfold spF at q
      refine B_X4_lastWood_15 hK (Ah0 := A.1) (b20 := by omega) (n22a := by rw [tn]; omega) (kt := fun z => ?_) (kf := fun z => ?_)
      · rw [tn] at z
        rw [if_pos (by omega)] at q
        refine B_X4_lastWood_27 hK (k := ?_)
        rw [show ((n + 1 : Nat) : Int) - 1 + (-1) = (n : Int) - 1 by omega]
        exact ih (by omega) q
      · rw [tn] at z
        rw [if_neg (by omega)] at q
        refine B_X4_lastWood_25 hK (k := ?_)
        rw [show ((n + 1 : Nat) : Int) - 1 = (n : Int) by omega]
        exact q
  have := lp (c + 1).toNat (by omega) k
  rw [show (((c + 1).toNat : Nat) : Int) - 1 = c by omega] at this
  exact this
/-- as the class goes from spot to spot -/
def fcL (P : Int) (wd : Nat → Int) (D : Int) (sp : Int → Int) (k : Nat) (n : Int) : Nat → Int → Int → List stT → List stT
  | 0, _, _, l => l
  | f + 1, day, bef, l => if D ≤ day then l else if sp day = -1 then fcL P wd D sp k n f (day + 1) bef l else fcL P wd D sp k n f (day + (if bef = -1 then 0 else fAbs (sp day - bef)) + n) (sp day) (addS P wd D (sp day) (day + (if bef = -1 then 0 else fAbs (sp day - bef))) (day + (if bef = -1 then 0 else fAbs (sp day - bef)) + n - 1) k l)
theorem skF_fuel {D : Int} {sp : Int → Int} : ∀ (a b : Nat) (t : Int), D ≤ t + a → D ≤ t + b → skF D sp a t = skF D sp b t
  | 0, 0, t, _, _ => rfl
  | 0, b + 1, t, h1, h2 => by
    unfold skF
    rw [if_pos (by omega)]
  | a + 1, 0, t, h1, h2 => by
    unfold skF
    rw [if_pos (by omega)]
  | a + 1, b + 1, t, h1, h2 => by
    unfold skF
    by_cases q : D ≤ t
    · rw [if_pos q, if_pos q]
    · rw [if_neg q, if_neg q]
      by_cases q2 : sp t = -1
      · rw [if_pos q2, if_pos q2]
        exact skF_fuel a b (t + 1) (by omega) (by omega)
      · rw [if_neg q2, if_neg q2]
theorem addS_late {P D p f t : Int} {wd : Nat → Int} {l : List stT} (h : D ≤ f) : ∀ k, addS P wd D p f t k l = l
  | 0 => rfl
  | k + 1 => by
    unfold addS
    rw [addS_late h k]
    unfold addF
    refine if_neg (fun z => ?_)
    have := z.2
    split at this <;> omega
theorem dif_abs (a b : Int) : dif a b = fAbs (b - a) := by
  unfold dif fAbs
  split <;> split <;> omega
theorem fcL_is {P D : Int} {wd : Nat → Int} {sp : Int → Int} {k : Nat} {n : Int} (hn : 1 ≤ n) (hD : D ≤ 10) : ∀ (F f : Nat) (day bef : Int) (l : List stT), 0 ≤ day → D ≤ day + F → D ≤ day + f → fcL P wd D sp k n F day bef l = flF P wd D sp k n f day bef l := by
  have late : ∀ (f : Nat) (day bef : Int) (l : List stT), D ≤ day → flF P wd D sp k n f day bef l = l := by
    intro f day bef l h
    cases f with
    | zero => rfl
    | succ f =>
      unfold flF
      have : skF D sp 10 day = (day, -1) := by
        unfold skF
        rw [if_pos h]
      rw [this, if_pos rfl]
  intro F
  induction F with
  | zero =>
    intro f day bef l h0 h1 h2
    rw [late f day bef l (by omega)]
    rfl
  | succ F ih =>
    intro f day bef l h0 h1 h2
    unfold fcL
    by_cases q : D ≤ day
    · rw [if_pos q, late f day bef l q]
    · rw [if_neg q]
      obtain ⟨f', rfl⟩ : ∃ f', f = f' + 1 := ⟨f - 1, by omega⟩
      by_cases q2 : sp day = -1
      · rw [if_pos q2, ih (f' + 1) (day + 1) bef l (by omega) (by omega) (by omega)]
        have : skF D sp 10 day = skF D sp 10 (day + 1) := by
          rw [skF_fuel 10 11 day (by omega) (by omega)]
          show skF D sp (10 + 1) day = _
          rw [skF, if_neg q, if_pos q2]
        unfold flF
        rw [this]
      · rw [if_neg q2]
        have e : skF D sp 10 day = (day, sp day) := by
          show skF D sp (9 + 1) day = _
          rw [skF, if_neg q, if_neg q2]
        have ab : 0 ≤ fAbs (sp day - bef) := by unfold fAbs; split <;> omega
        rw [flF, e]
        dsimp only
        rw [if_neg q2, dif_abs]
        generalize hdl : (if bef = -1 then (0 : Int) else fAbs (sp day - bef)) = dl
        have d0 : 0 ≤ dl := by rw [← hdl]; split <;> omega
        by_cases q3 : D ≤ day + dl
        · rw [if_pos q3, addS_late q3, ih 0 (day + dl + n) (sp day) l (by omega) (by omega) (by omega)]
          rfl
        · rw [if_neg q3]
          exact ih f' _ _ _ (by omega) (by omega) (by omega)
theorem s_wayOn {sh : oS} {I : Nat → Nat → Int} {L : Nat → Nat → Int64} {Q : oQ} {h : Nat} (A : MA sh h) (k : Q (some (vI (fShl 1 (I h 1) - 1))) (sh, I, L)) : T_X6_wayOn [vR h] (sh, I, L) Q := by
  refine And.intro (Nat.le_of_ble_eq_true rfl) (fun K hK => ?_)
  exact B_X6_wayOn_0 hK (Ah0 := A.1) (k := k)
set_option maxHeartbeats 2000000 in
theorem s_pitch3 {sh : oS} {I : Nat → Nat → Int} {L : Nat → Nat → Int64} {Q : oQ} (hs : Sh sh) {hl hf hw hm P D g k : Nat} {kind : Int} (A : LA sh hl hf hw) (M : MA sh hm) (hg : (sK sh g = 3 ∧ kind = 1) ∨ (sK sh g = 5 ∧ kind = 2)) (hg2 : g = 19 ∨ 77 ≤ g) (hL : lHas I hl hf hw P) (hM : mHas I hm D) (hD1 : 1 ≤ D) (hk : k ≤ 3) (hn : 1 ≤ I g 1 ∧ I g 1 ≤ 1000)
    (kk : ∀ J, FrK I J → cSt J (flF P (I hw) D (spD (I hw) (colP P (I (hm + 2)) (fShl 1 (I hm 1) - 1)) D kind (I g 1)) k (I g 1) 10 0 (-1) []) → Q none (sh, J, L)) : T_X3_pitch [vR g, vR 24, vR hl, vR hm, vI (k : Int)] (sh, I, L) Q := by
  refine And.intro (Nat.le_of_ble_eq_true rfl) (fun K hK => ?_)
  have D2 := hM.2.1
  have hg3 : sK sh g ∈ [3, 5] := by
    rcases hg with ⟨a, -⟩ | ⟨a, -⟩ <;> rw [a] <;> decide
  refine B_X3_pitch_0 hK hs (Ah2 := A.1) (Ah3 := M.1) (k := ?_)
  have F0 : FrK I (u2 I 25 3 0) := Fr.rf.u 25 3 0 (by simp)
  have c0 : cSt (u2 I 25 3 0) [] := cSt.nil uA
  generalize u2 I 25 3 0 = J0 at *
  have s0 := F0.lm A M
  refine s_wayOn M ?_
  rw [s0.1, s0.2.2.2.1, hL.1]
  refine B_X3_pitch_17 hK hs (As0 := M.1) (k := ?_)
  refine s_cwalk hs M (hM.eq s0) (by have := hL.2.1; omega) (fun J1 F1 w1 => ?_)
  rw [s0.2.2.2.2.2.1] at w1
  have FK1 : FrK J0 J1 := F1.mono (by decide) (by simp)
  have F01 := F0.t FK1
  have c1 : cSt J1 [] := c0.fr (F1 25 3 (by decide) (by simp)) (fn_eq F1 26 (by decide) (by simp)) (fn_eq F1 27 (by decide) (by simp)) (fn_eq F1 28 (by decide) (by simp))
  refine B_X3_pitch_24 hK (k := ?_)
  generalize hcol : colP P (I (hm + 2)) (fShl 1 (I hm 1) - 1) = col at *
  have P2 := hL.2.1
  have cb : ∀ u, 0 ≤ col u ∧ col u < P := fun u => by
    have := colP_bd (P := P) (S := I (hm + 2)) (way := fShl 1 (I hm 1) - 1) (by omega) u
    rw [hcol] at this
    omega
  generalize hsp : spD (I hw) col D kind (I g 1) = sp at *
  have spb : ∀ t, -1 ≤ sp t ∧ sp t < 8 := fun t => by
    rw [← hsp]
    exact spD_bd (fun d => by have := cb d; omega)
  rw [← fcL_is (F := 10) (f := 10) (day := 0) (bef := -1) (l := []) hn.1 (by omega) (by omega) (by omega) (by omega)] at kk
  have lp : ∀ (d turn : Nat) (day bef : Int) (l : List stT) (J : Nat → Nat → Int), turn + d = 10 → 0 ≤ day ∧ day ≤ 100000 → (-1 ≤ bef ∧ bef < 8) → FrK I J → (∀ x, x < D → J 29 x = col x) → cSt J l → stOK P D l → (l.length : Int) ≤ k * day → l.length ≤ 30 → (turn : Int) ≤ day → (∀ J2, FrK I J2 → cSt J2 (fcL P (I hw) D sp k (I g 1) d day bef l) → Q none (sh, J2, L)) → K 33 [some (vR g), some (vR 24), some (vR hl), some (vR hm), some (vI (k : Int)), some (vI day), some (vI bef), some (vI (turn : Int)), none, none] [] (sh, J, L) (0, 0) := by
    intro d
    induction d with
    | zero =>
      intro turn day bef l J ht hd hb F w c o n1 n2 n3 q
      refine B_X3_pitch_33 hK (n37a := by omega) (kt := fun _ => ?_) (kf := fun z => absurd (by omega) z)
      exact B_X3_pitch_159 hK (k := q J F c)
    | succ d ih =>
      intro turn day bef l J ht hd hb F w c o n1 n2 n3 q
      have s := F.lm A M
      have e0 : J hm 0 = (D : Int) := by rw [s.2.2.2.1]; exact hM.1
      have eg : J g = I g := F.g (by omega)
      refine B_X3_pitch_33 hK (n37a := by omega) (kt := fun z => absurd z (by omega)) (kf := fun _ => ?_)
      unfold fcL at q
      refine B_X3_pitch_40 hK (Ah3 := M.1) (n46a := by omega) (n46b := by omega) (kt := fun z => ?_) (kf := fun z => ?_)
      · rw [if_pos (by omega)] at q
        exact B_X3_pitch_159 hK (k := q J F c)
      rw [if_neg (by omega)] at q
      have hday : day < D := by omega
      have spb' := spb day
      -- the day that is looked at
      have look : ∀ s2 : Int, s2 = (if (if kind = 2 then day + I g 1 else day) < (D : Int) then (if kind = 2 then day + I g 1 else day) else (D : Int) - 1) → K 61 [some (vR g), some (vR 24), some (vR hl), some (vR hm), some (vI (k : Int)), some (vI day), some (vI bef), some (vI (turn : Int)), none, none] [vI s2, vR 29, vR hl] (sh, J, L) (0, 0) := by
        intro s2 hs2
        have s2b : 0 ≤ s2 ∧ s2 < D := by rw [hs2]; split <;> (try split) <;> omega
        refine B_X3_pitch_61 hK hs (b61 := by omega) (As0 := A.1) (k := ?_)
        have cc := cb s2.toNat
        rw [w s2.toNat (by omega)]
        refine s_lastWood A (hL.eq s) (by omega) ?_
        have espot : spF (J hw) (col s2.toNat + 1).toNat = sp day := by
          rw [← hsp, s.2.2.1, hs2]
          rfl
        rw [espot]
        refine B_X3_pitch_65 hK (n70a := by omega) (kt := fun z2 => ?_) (kf := fun z2 => ?_)
        · rw [if_neg z2] at q
          -- stands there
          have tail : ∀ s1 : Int, s1 = (if bef = -1 then 0 else fAbs (sp day - bef)) → K 99 [some (vR g), some (vR 24), some (vR hl), some (vR hm), some (vI (k : Int)), none, none, some (vI (turn : Int)), some (vI (sp day)), none] [vI s1, vI day] (sh, J, L) (0, 0) := by
            intro s1 hs1
            rw [← hs1] at q
            have s1b : 0 ≤ s1 ∧ s1 ≤ 9 := by
              rw [hs1]
              split
              · omega
              · exact fAbs_bd (by omega)
            refine B_X3_pitch_99 hK (k := ?_)
            have k9 : (k : Int) * day ≤ 27 := by
              have a1 : (k : Int) * day ≤ 3 * day := Int.mul_le_mul_of_nonneg_right (by omega) (by omega)
              omega
            have ads : ∀ (e i : Nat) (J3 : Nat → Nat → Int), i + e = k → FrK I J3 → (∀ x, x < D → J3 29 x = col x) → cSt J3 (addS P (I hw) D (sp day) (day + s1) (day + s1 + I g 1 - 1) i l) → K 105 [some (vR g), some (vR 24), some (vR hl), some (vR hm), some (vI (k : Int)), some (vI (day + s1)), none, some (vI (turn : Int)), some (vI (sp day)), some (vI (i : Int))] [] (sh, J3, L) (0, 0) := by
              intro e
              induction e with
              | zero =>
                intro i J3 hi F3 w3 c3
                have : i = k := by omega
                subst this
                have s3 := F3.lm A M
                refine B_X3_pitch_105 hK (n109a := by omega) (n109b := by omega) (kt := fun _ => ?_) (kf := fun z3 => absurd (by omega) z3)
                refine B_X3_pitch_140 hK (kh0_0 := hg3) (k := ?_)
                rw [F3.g (by omega)]
                refine B_X3_pitch_153 hK (k := ?_)
                have len := addS_len (P := P) (wd := I hw) (D := D) (p := sp day) (f := day + s1) (t := day + s1 + I g 1 - 1) (l := l) i
                have mul : (i : Int) * day + i ≤ (i : Int) * (day + s1 + I g 1) := by
                  have a1 : (i : Int) * (day + 1) ≤ (i : Int) * (day + s1 + I g 1) := Int.mul_le_mul_of_nonneg_left (by omega) (by omega)
                  rw [Int.mul_add, Int.mul_one] at a1
                  exact a1
                refine ih (turn + 1) (day + s1 + I g 1) (sp day) _ J3 (by omega) (by omega) spb' F3 w3 c3 (addS_ok (by omega) o i) (by omega) (by omega) (by omega) q
              | succ e ihe =>
                intro i J3 hi F3 w3 c3
                have s3 := F3.lm A M
                refine B_X3_pitch_105 hK (n109a := by omega) (n109b := by omega) (kt := fun z3 => absurd z3 (by omega)) (kf := fun _ => ?_)
                refine B_X3_pitch_112 hK hs (kh0_0 := hg3) (k := ?_)
                rw [F3.g (by omega)]
                have len := addS_len (P := P) (wd := I hw) (D := D) (p := sp day) (f := day + s1) (t := day + s1 + I g 1 - 1) (l := l) i
                refine s_addC hs A M (hL.eq s3) (hM.eq s3) (by omega) (by omega) (by omega) c3 (by omega) (addS_ok (by omega) o i) (fun J4 F4 c4 => ?_)
                refine B_X3_pitch_134 hK (k := ?_)
                rw [s3.2.2.1] at c4
                exact ihe (i + 1) J4 (by omega) (F3.t F4.c) (fun x hx => by rw [F4 29 x (by decide) (by simp)]; exact w3 x hx) c4
            exact ads k 0 J (by omega) F w c
          refine B_X3_pitch_79 hK (n84a := by omega) (kt := fun z3 => ?_) (kf := fun z3 => ?_)
          · refine B_X3_pitch_91 hK (n96 := by omega) (k := ?_)
            exact tail _ (by rw [if_neg z3])
          · refine B_X3_pitch_87 hK (k := ?_)
            exact tail _ (by rw [if_pos (Classical.not_not.1 z3)])
        · rw [if_pos (Classical.not_not.1 z2)] at q
          refine B_X3_pitch_73 hK (k := ?_)
          refine B_X3_pitch_153 hK (k := ?_)
          have mul : (k : Int) * day ≤ (k : Int) * (day + 1) := Int.mul_le_mul_of_nonneg_left (by omega) (by omega)
          exact ih (turn + 1) (day + 1) bef l J (by omega) (by omega) hb F w c o (by omega) n2 (by omega) q
      refine B_X3_pitch_49 hK hs (k3 := fun h3 => ?_) (k5 := fun h5 => ?_) (kb := hg3)
      · have hk1 : kind = 1 := by
          rcases hg with ⟨a, b⟩ | ⟨a, b⟩
          · exact b
          · omega
        refine And.intro (Nat.le_of_ble_eq_true rfl) (fun K2 hK2 => ?_)
        refine B_X3_dayLookedAt_0 hK2 (k := ?_)
        have kn : ¬ kind = 2 := by omega
        exact look _ (by rw [if_neg kn, if_pos hday])
      · have hk2 : kind = 2 := by
          rcases hg with ⟨a, b⟩ | ⟨a, b⟩
          · omega
          · exact b
        refine And.intro (Nat.le_of_ble_eq_true rfl) (fun K2 hK2 => ?_)
        refine B_X5_dayLookedAt_0 hK2 (kh0_0 := h5) (Ah2 := M.1) (n12a := by rw [eg]; omega) (n12b := by omega) (k := ?_)
        rw [eg, e0]
        refine look _ ?_
        unfold fMin
        rw [if_pos hk2]
        split <;> split <;> omega
  exact lp 10 0 0 (-1) [] J1 (by omega) (by omega) (by omega) F01 w1 c1 stOK_nil (by simp) (by simp) (by omega) kk
/-- a told plan's numbers, as a row -/
def tdT (I : Nat → Nat → Int) (g : Nat) (x : Nat) : Int := I (g + 1 + x % 3) (x / 3)
theorem tdT_3 {I : Nat → Nat → Int} {g i : Nat} : tdT I g (3 * i) = I (g + 1) i ∧ tdT I g (3 * i + 1) = I (g + 2) i ∧ tdT I g (3 * i + 2) = I (g + 3) i := by
  unfold tdT
  rw [show 3 * i % 3 = 0 by omega, show 3 * i / 3 = i by omega, show (3 * i + 1) % 3 = 1 by omega, show (3 * i + 1) / 3 = i by omega, show (3 * i + 2) % 3 = 2 by omega, show (3 * i + 2) / 3 = i by omega]
  exact ⟨rfl, rfl, rfl⟩
theorem s_pitch10 {sh : oS} {I : Nat → Nat → Int} {L : Nat → Nat → Int64} {Q : oQ} (hs : Sh sh) {hl hf hw hm P D g n : Nat} {many : Int} (A : LA sh hl hf hw) (M : MA sh hm) (T : TA sh g) (hL : lHas I hl hf hw P) (hM : mHas I hm D) (hn : I g 5 = (n : Int)) (hn6 : n ≤ 6) (hT : ∀ i, i < n → (0 ≤ I (g + 1) i ∧ I (g + 1) i ≤ 7) ∧ (0 ≤ I (g + 2) i ∧ I (g + 2) i ≤ 99) ∧ 0 ≤ I (g + 3) i ∧ I (g + 3) i ≤ 99)
    (kk : ∀ J, FrK I J → cSt J (toL P (I hw) D (tdT I g) n) → Q none (sh, J, L)) : T_X10_pitch [vR g, vR 24, vR hl, vR hm, vI many] (sh, I, L) Q := by
  refine And.intro (Nat.le_of_ble_eq_true rfl) (fun K hK => ?_)
  have hg := T.2
  refine B_X10_pitch_0 hK hs (k := ?_)
  have lp : ∀ (d i : Nat) (J : Nat → Nat → Int), i + d = n → FrK I J → cSt J (toL P (I hw) D (tdT I g) i) → K 11 [some (vR g), some (vR 24), some (vR hl), some (vR hm), none, some (vI (i : Int))] [] (sh, J, L) (0, 0) := by
    intro d
    induction d with
    | zero =>
      intro i J hi F c
      refine B_X10_pitch_11 hK (Ah0 := T.1) (n17a := by omega) (n17b := by rw [F.g (by omega)]; omega) (kt := fun _ => ?_) (kf := fun z => absurd (by rw [F.g (by omega)]; omega) z)
      have : i = n := by omega
      subst this
      exact B_X10_pitch_56 hK (k := kk J F c)
    | succ d ih =>
      intro i J hi F c
      refine B_X10_pitch_11 hK (Ah0 := T.1) (n17a := by omega) (n17b := by rw [F.g (by omega)]; omega) (kt := fun z => absurd z (by rw [F.g (by omega)]; omega)) (kf := fun _ => ?_)
      have s := F.lm A M
      have t := hT i (by omega)
      refine B_X10_pitch_20 hK hs (Ah0 := T.1) (b32 := by omega) (k := ?_)
      rw [Int.toNat_natCast, F.g (g := g + 1) (by omega), F.g (g := g + 2) (by omega), F.g (g := g + 3) (by omega)]
      have len := toL_len (P := P) (wd := I hw) (D := D) (T := tdT I g) i
      refine s_addC hs A M (hL.eq s) (hM.eq s) (by omega) (by omega) (by omega) c (by omega) (toL_ok i (fun j hj _ => by rw [tdT_3.2.1]; exact (hT j (by omega)).2.1.1)) (fun J2 F2 c2 => ?_)
      refine B_X10_pitch_50 hK (k := ?_)
      refine ih (i + 1) J2 (by omega) (F.t F2.c) ?_
      rw [s.2.2.1] at c2
      unfold toL
      rw [tdT_3.1, tdT_3.2.1, tdT_3.2.2, if_neg (by omega)]
      exact c2
  exact lp n 0 _ (by omega) (Fr.rf.u 25 3 0 (by simp)) (cSt.nil uA)
