/-! the class: the best places -/
theorem FrF.k {I J : Nat → Nat → Int} (F : FrF I J) : FrK I J := F.mono (by decide) (by decide)
theorem s_settle {sh : oS} {I : Nat → Nat → Int} {L : Nat → Nat → Int64} {Q : oQ} (hs : Sh sh) {hl hf hw hm P D g : Nat} {code k : Int} (A : LA sh hl hf hw) (M : MA sh hm) (hg : sK sh g = 1) (hg2 : g = 19 ∨ 77 ≤ g) (hL : lHas I hl hf hw P) (hM : mHas I hm D) (hk : I g 0 = k) (hk2 : k = 1 ∨ k = 2) (hc : 0 ≤ code ∧ code ≤ 64)
    (kk : ∀ J, FrK I J → cSt J (if code = 64 then [] else two P (I hw) D k (code / 8) (code % 8)) → Q none (sh, J, L)) : T_X1_settle [vR g, vR 24, vR hl, vR hm, vI code] (sh, I, L) Q := by
  refine And.intro (Nat.le_of_ble_eq_true rfl) (fun K hK => ?_)
  have D2 := hM.2.1
  have F0 : FrK I (u2 I 25 3 0) := Fr.rf.u 25 3 0 (by simp)
  have c0 : cSt (u2 I 25 3 0) [] := cSt.nil uA
  refine B_X1_settle_0 hK hs (n10 := by omega) (kt := fun z => absurd z (by omega)) (kf := fun _ => ?_)
  generalize u2 I 25 3 0 = J0 at *
  refine B_X1_settle_13 hK (n17a := by omega) (kt := fun z => ?_) (kf := fun z => ?_)
  · rw [if_neg (by omega)] at kk
    refine B_X1_settle_21 hK hs (n25a := by omega) (k := ?_)
    have td : code.tdiv 8 = code / 8 := Int.tdiv_eq_ediv_of_nonneg (by omega)
    have tm : code.tmod 8 = code % 8 := Int.tmod_eq_emod_of_nonneg (by omega)
    rw [td, tm]
    have s0 := F0.lm A M
    refine s_addC hs A M (hL.eq s0) (hM.eq s0) (by omega) (by omega) (by decide) c0 (by simp) stOK_nil (fun J1 F1 c1 => ?_)
    rw [s0.2.2.1, addF_10 (by omega)] at c1
    have F01 := F0.t F1.c
    have s1 := F01.lm A M
    have e0 : J1 g 0 = k := by rw [F01.g (by omega)]; exact hk
    refine B_X1_settle_50 hK (kh0_0 := hg) (n55a := by omega) (kt := fun z2 => ?_) (kf := fun z2 => ?_)
    · refine B_X1_settle_73 hK (k := kk J1 F01 ?_)
      unfold two
      rw [if_neg (by omega)]
      exact c1
    · refine B_X1_settle_58 hK hs (k := ?_)
      have len := addF_len (P := P) (wd := I hw) (D := D) (p := code / 8) (f := code / 8) (t := D) (l := [])
      refine s_addC hs A M (hL.eq s1) (hM.eq s1) (by omega) (by omega) (by decide) c1 (by simp at len; omega) (addF_ok (by omega) stOK_nil) (fun J2 F2 c2 => ?_)
      rw [s1.2.2.1, addF_10 (by omega)] at c2
      refine B_X1_settle_73 hK (k := kk J2 (F01.t F2.c) ?_)
      unfold two
      rw [if_pos (by omega)]
      exact c2
  · rw [if_pos (by omega)] at kk
    exact B_X1_settle_20 hK (k := kk J0 F0 c0)
theorem bsS_no {may : Nat → Bool} {E : Nat → Int × Int} {c : Nat} (h : may c = false) : bsS may E (c + 1) = bsS may E c := by
  show (if may c = true ∧ _ then _ else _) = _
  rw [if_neg (fun z => by rw [h] at z; exact absurd z.1 (by decide))]
theorem bsS_rg {may : Nat → Bool} {E : Nat → Int × Int} {a : Nat} : ∀ d, (∀ c, a ≤ c → c < a + d → may c = false) → bsS may E (a + d) = bsS may E a
  | 0, _ => rfl
  | d + 1, h => by
    rw [show a + (d + 1) = a + d + 1 by omega, bsS_no (h (a + d) (by omega) (by omega))]
    exact bsS_rg d (fun c h1 h2 => h c h1 (by omega))
/-- the class's number of a choice -/
def cdC (k : Int) (b : Int) : Int := if b = -1 then 64 else if k = 1 then 9 * b else b
def chR (k : Int) (x : Int × Int × Int) (b h c : Int) : Prop := b = cdC k x.1 ∧ (x.1 ≠ -1 → h = x.2.1 ∧ c = x.2.2)
noncomputable def bsE (P : Int) (F wd men col : Nat → Int) (D k bk bd kp : Int) (c : Nat) : Int × Int := evL P (D - 1) F men col (bTw P wd D k c) bk bd kp 0
set_option maxHeartbeats 4000000 in
theorem s_choice {sh : oS} {I : Nat → Nat → Int} {L : Nat → Nat → Int64} {Q : oQ} (hs : Sh sh) {hl hf hw hm P D g : Nat} {k : Int} (A : LA sh hl hf hw) (M : MA sh hm) (hg : sK sh g = 1) (hg2 : g = 19 ∨ 77 ≤ g) (hL : lHas I hl hf hw P) (hM : mHas I hm D) (hD1 : 1 ≤ D) (hk : I g 0 = k) (hk2 : k = 1 ∨ k = 2)
    (kk : ∀ J, FrK I J → Q (some (vI (cdC k (bsS (bMay P (I hw) k) (bsE P (I hf) (I hw) (I (hm + 1)) (colP P (I (hm + 2)) (fShl 1 (I hm 1) - 1)) D k (I hl 3) (I hl 4) (I hl 5)) (if k = 1 then 8 else 64)).1))) (sh, J, L)) : T_X1_choice [vR g, vR 24, vR hl, vR hm] (sh, I, L) Q := by
  refine And.intro (Nat.le_of_ble_eq_true rfl) (fun K hK => ?_)
  have P2 := hL.2.1
  have hw7 := hL.2.2.2.2.2.2
  generalize hE : bsE P (I hf) (I hw) (I (hm + 1)) (colP P (I (hm + 2)) (fShl 1 (I hm 1) - 1)) D k (I hl 3) (I hl 4) (I hl 5) = E at *
  generalize hmy : bMay P (I hw) k = may at *
  have bnd : ∀ c, -1 ≤ (bsS may E c).1 ∧ (bsS may E c).1 < c := fun c => bsS_bd c
  -- which code stands for a pair
  have cd1 : k = 1 → ∀ c, c < 8 → may c = decide (c < P ∧ I hw c ≠ 0) := fun h1 c hc => by
    rw [← hmy]
    unfold bMay bA
    apply decide_eq_decide.2
    rw [if_pos h1, show c % 8 = c by omega]
    constructor
    · intro z; exact ⟨by omega, z.2.2.2.1⟩
    · intro z; exact ⟨by omega, by omega, Nat.le_refl _, z.2, z.2⟩
  have cd2 : k = 2 → ∀ a b, b < 8 → may (8 * a + b) = decide (a < P ∧ b < P ∧ a ≤ b ∧ I hw a ≠ 0 ∧ I hw b ≠ 0) := fun h1 a b hb => by
    rw [← hmy]
    unfold bMay bA
    apply decide_eq_decide.2
    rw [if_neg (by omega), show (8 * a + b) % 8 = b by omega, show (8 * a + b) / 8 = a by omega]
    constructor
    · intro z; exact ⟨by omega, by omega, z.2.2⟩
    · intro z; exact ⟨by omega, by omega, z.2.2⟩
  have st : ∀ {J : Nat → Nat → Int}, FrK I J → sameLM I J hl hf hw hm ∧ J g 0 = k := fun {J} F => ⟨F.lm A M, by rw [F.g (by omega)]; exact hk⟩
  refine B_X1_choice_0 hK (k := ?_)
  -- place by place
  have outer : ∀ (d a : Nat) (J : Nat → Nat → Int) (b h c : Int), a + d = P → FrK I J → chR k (bsS may E (if k = 1 then a else 8 * a)) b h c → (0 ≤ h ∧ h ≤ 990) → (0 ≤ c ∧ c ≤ 13860) → K 13 [some (vR g), some (vR 24), some (vR hl), some (vR hm), some (vI b), some (vI h), some (vI c), some (vI (a : Int)), none, none, none] [] (sh, J, L) (0, 0) := by
    intro d
    induction d with
    | zero =>
      intro a J b h c hd F hr hh hc
      have : a = P := by omega
      subst this
      obtain ⟨s, -⟩ := st F
      have e0 : J hl 0 = (a : Int) := by rw [s.1]; exact hL.1
      refine B_X1_choice_13 hK (Ah2 := A.1) (n19a := by omega) (n19b := by omega) (kt := fun _ => ?_) (kf := fun z => absurd (by omega) z)
      refine B_X1_choice_183 hK (k := ?_)
      have e : bsS may E (if k = 1 then 8 else 64) = bsS may E (if k = 1 then a else 8 * a) := by
        rcases hk2 with k1 | k1
        · rw [if_pos k1, if_pos k1]
          have := bsS_rg (may := may) (E := E) (a := a) (8 - a) (fun x h1 h2 => by
            rw [cd1 k1 x (by omega)]
            apply decide_eq_false
            omega)
          rw [show a + (8 - a) = 8 by omega] at this
          exact this
        · have k1' : ¬ k = 1 := by omega
          rw [if_neg k1', if_neg k1']
          have := bsS_rg (may := may) (E := E) (a := 8 * a) (64 - 8 * a) (fun x h1 h2 => by
            have := cd2 k1 (x / 8) (x % 8) (by omega)
            rw [show 8 * (x / 8) + x % 8 = x by omega] at this
            rw [this]
            apply decide_eq_false
            omega)
          rw [show 8 * a + (64 - 8 * a) = 64 by omega] at this
          exact this
      rw [hr.1, ← e]
      exact kk J F
    | succ d ih =>
      intro a J b h c hd F hr hh hc
      have a8 : a < 8 := by omega
      obtain ⟨s, eg⟩ := st F
      have e0 : J hl 0 = (P : Int) := by rw [s.1]; exact hL.1
      refine B_X1_choice_13 hK (Ah2 := A.1) (n19a := by omega) (n19b := by omega) (kt := fun z => absurd z (by omega)) (kf := fun _ => ?_)
      -- the other oven's place
      have inner : ∀ (e y : Nat) (J : Nat → Nat → Int) (b h c : Int), a ≤ y → y + e = (if k = 1 then a + 1 else P) → FrK I J → chR k (bsS may E (if k = 1 then y else 8 * a + y)) b h c → (0 ≤ h ∧ h ≤ 990) → (0 ≤ c ∧ c ≤ 13860) → K 47 [some (vR g), some (vR 24), some (vR hl), some (vR hm), some (vI b), some (vI h), some (vI c), some (vI (a : Int)), some (vI ((if k = 1 then (a : Int) else (P : Int) - 1))), some (vI (y : Int)), none] [] (sh, J, L) (0, 0) := by
        intro e
        induction e with
        | zero =>
          intro y J b h c hy he F hr hh hc
          refine B_X1_choice_47 hK (n51a := by split at he <;> omega) (n51b := by split <;> omega) (kt := fun _ => ?_) (kf := fun z => absurd (by split at he <;> (split <;> omega)) z)
          refine B_X1_choice_177 hK (k := ?_)
          refine ih (a + 1) J b h c (by omega) F ?_ hh hc
          have e2 : bsS may E (if k = 1 then a + 1 else 8 * (a + 1)) = bsS may E (if k = 1 then y else 8 * a + y) := by
            rcases hk2 with k1 | k1
            · rw [if_pos k1, if_pos k1]
              rw [if_pos k1] at he
              rw [show y = a + 1 by omega]
            · have k1' : ¬ k = 1 := by omega
              rw [if_neg k1', if_neg k1']
              rw [if_neg k1'] at he
              have := bsS_rg (may := may) (E := E) (a := 8 * a + y) (8 - y) (fun x h1 h2 => by
                have := cd2 k1 a (x - 8 * a) (by omega)
                rw [show 8 * a + (x - 8 * a) = x by omega] at this
                rw [this]
                apply decide_eq_false
                omega)
              rw [show 8 * a + y + (8 - y) = 8 * (a + 1) by omega] at this
              exact this
          rw [e2]
          exact hr
        | succ e ihe =>
          intro y J b h c hy he F hr hh hc
          have yP : y < P := by split at he <;> omega
          obtain ⟨s, eg⟩ := st F
          have ta : (a : Int).toNat = a := Int.toNat_natCast a
          have ty : (y : Int).toNat = y := Int.toNat_natCast y
          have wa := hw7 a (by omega)
          have wy := hw7 y yP
          have k1y : k = 1 → y = a := fun k1 => by rw [if_pos k1] at he; omega
          have bb := bnd (if k = 1 then y else 8 * a + y)
          have b64 : (b = 64 ↔ (bsS may E (if k = 1 then y else 8 * a + y)).1 = -1) ∧ 0 ≤ b ∧ b ≤ 64 := by
            rw [hr.1]
            unfold cdC
            rcases hk2 with k1 | k1
            · rw [if_pos k1] at bb ⊢
              rw [if_pos k1]
              by_cases z : (bsS may E y).1 = -1
              · rw [if_pos z]; omega
              · rw [if_neg z]; omega
            · have k1' : ¬ k = 1 := by omega
              rw [if_neg k1'] at bb ⊢
              rw [if_neg k1']
              by_cases z : (bsS may E (8 * a + y)).1 = -1
              · rw [if_pos z]; omega
              · rw [if_neg z]; omega
          refine B_X1_choice_47 hK (n51a := by omega) (n51b := by split <;> omega) (kt := fun z => absurd z (by split at he <;> (split <;> omega))) (kf := fun _ => ?_)
          have next : ∀ (J2 : Nat → Nat → Int) (b h c : Int), FrK I J2 → chR k (bsS may E ((if k = 1 then y else 8 * a + y) + 1)) b h c → (0 ≤ h ∧ h ≤ 990) → (0 ≤ c ∧ c ≤ 13860) → K 171 [some (vR g), some (vR 24), some (vR hl), some (vR hm), some (vI b), some (vI h), some (vI c), some (vI (a : Int)), some (vI ((if k = 1 then (a : Int) else (P : Int) - 1))), some (vI (y : Int)), none] [] (sh, J2, L) (0, 0) := by
            intro J2 b h c F2 hr2 hh2 hc2
            refine B_X1_choice_171 hK (k := ?_)
            refine ihe (y + 1) J2 b h c (by omega) (by omega) F2 ?_ hh2 hc2
            have : (if k = 1 then y + 1 else 8 * a + (y + 1)) = (if k = 1 then y else 8 * a + y) + 1 := by split <;> omega
            rw [this]
            exact hr2
          have cdm : may (if k = 1 then y else 8 * a + y) = decide (I hw a ≠ 0 ∧ I hw y ≠ 0) := by
            rcases hk2 with k1 | k1
            · rw [if_pos k1, cd1 k1 y (by omega)]
              apply decide_eq_decide.2
              rw [k1y k1]
              constructor
              · intro z; exact ⟨z.2, z.2⟩
              · intro z; exact ⟨by omega, z.1⟩
            · have k1' : ¬ k = 1 := by omega
              rw [if_neg k1', cd2 k1 a y (by omega)]
              apply decide_eq_decide.2
              constructor
              · intro z; exact z.2.2.2
              · intro z; exact ⟨by omega, yP, hy, z⟩
          refine B_X1_choice_54 hK (Ah2 := A.1) (b60 := by omega) (n61 := by rw [ta, s.2.2.1]; omega) (kt := fun z => ?_) (kf := fun z => ?_)
          · rw [ta, s.2.2.1] at z
            refine next J b h c F ?_ hh hc
            rw [bsS_no (by rw [cdm]; apply decide_eq_false; omega)]
            exact hr
          rw [ta, s.2.2.1] at z
          refine B_X1_choice_64 hK (Ah2 := A.1) (b70 := by omega) (n71 := by rw [ty, s.2.2.1]; omega) (kt := fun z2 => ?_) (kf := fun z2 => ?_)
          rotate_left
          · rw [ty, s.2.2.1] at z2
            refine B_X1_choice_74 hK (k := ?_)
            refine next J b h c F ?_ hh hc
            rw [bsS_no (by rw [cdm]; apply decide_eq_false; intro w; exact z2 w.2)]
            exact hr
          rw [ty, s.2.2.1] at z2
          have may1 : may (if k = 1 then y else 8 * a + y) = true := by rw [cdm]; apply decide_eq_true; exact ⟨z, z2⟩
          refine B_X1_choice_77 hK (kh0_0 := hg) (k := ?_)
          refine s_settle hs A M hg hg2 (hL.eq s) (hM.eq s) eg hk2 (by omega) (fun J1 F1 c1 => ?_)
          rw [if_neg (by omega), s.2.2.1, show (8 * (a : Int) + (y : Int)) / 8 = (a : Int) by omega, show (8 * (a : Int) + (y : Int)) % 8 = (y : Int) by omega] at c1
          have F01 := F.t F1
          obtain ⟨s1, eg1⟩ := st F01
          refine B_X1_choice_92 hK (Ah3 := M.1) (k := ?_)
          refine s_wayOn M ?_
          refine B_X1_choice_99 hK hs (k := ?_)
          have tok : stOK P D (two P (I hw) D k (a : Int) (y : Int)) := two_ok (by omega) (by omega)
          refine s_cfeed hs A M (hL.eq s1) (Or.inr rfl) (hM.eq s1) hD1 c1 (by have := two_len (P := P) (wd := I hw) (D := D) (k := k) (a := (a : Int)) (b := (y : Int)); omega) tok (by decide) (fun J2 F2 v2 r2 => ?_)
          have F02 := F01.t F2.k
          rw [s1.1, s1.2.1, s1.2.2.2.1, s1.2.2.2.2.1, s1.2.2.2.2.2.1] at v2
          have ev : (J2 24 4, J2 24 5) = E (if k = 1 then y else 8 * a + y) := by
            rw [v2, ← hE]
            unfold bsE bTw bA
            rcases hk2 with k1 | k1
            · rw [if_pos k1, if_pos k1, show y % 8 = y by omega, k1y k1]
            · have k1' : ¬ k = 1 := by omega
              rw [if_neg k1', if_neg k1', show (8 * a + y) / 8 = a by omega, show (8 * a + y) % 8 = y by omega]
          generalize hix : (if k = 1 then y else 8 * a + y) = ix at *
          have ixc : cdC k (ix : Int) = 8 * (a : Int) + (y : Int) := by
            unfold cdC
            rw [if_neg (by omega), ← hix]
            rcases hk2 with k1 | k1
            · rw [if_pos k1, if_pos k1, k1y k1]; omega
            · have k1' : ¬ k = 1 := by omega
              rw [if_neg k1', if_neg k1']; omega
          have e1 : (E ix).1 = J2 24 4 := by rw [← ev]
          have e2 : (E ix).2 = J2 24 5 := by rw [← ev]
          have yes : ((bsS may E ix).1 = -1 ∨ (E ix).1 < (bsS may E ix).2.1 ∨ (E ix).1 = (bsS may E ix).2.1 ∧ (E ix).2 < (bsS may E ix).2.2) → K 149 [some (vR g), some (vR 24), some (vR hl), some (vR hm), none, none, none, some (vI (a : Int)), some (vI ((if k = 1 then (a : Int) else (P : Int) - 1))), some (vI (y : Int)), none] [] (sh, J2, L) (0, 0) := by
            intro w
            refine B_X1_choice_149 hK hs (k := ?_)
            have en : bsS may E (ix + 1) = ((ix : Int), E ix) := by
              show (if may ix = true ∧ _ then _ else _) = _
              rw [if_pos ⟨may1, w⟩]
            refine next J2 _ _ _ F02 ?_ r2.1 r2.2
            rw [en]
            exact ⟨by rw [ixc], fun _ => ⟨e1.symm, e2.symm⟩⟩
          have no : ¬ ((bsS may E ix).1 = -1 ∨ (E ix).1 < (bsS may E ix).2.1 ∨ (E ix).1 = (bsS may E ix).2.1 ∧ (E ix).2 < (bsS may E ix).2.2) → K 171 [some (vR g), some (vR 24), some (vR hl), some (vR hm), some (vI b), some (vI h), some (vI c), some (vI (a : Int)), some (vI ((if k = 1 then (a : Int) else (P : Int) - 1))), some (vI (y : Int)), none] [] (sh, J2, L) (0, 0) := by
            intro w
            have en : bsS may E (ix + 1) = bsS may E ix := by
              show (if may ix = true ∧ _ then _ else _) = _
              rw [if_neg (fun x => w x.2)]
            refine next J2 b h c F02 ?_ hh hc
            rw [en]
            exact hr
          -- whether it is less
          have cmp : ∀ s0 : Int, ((s0 = 1 ∧ (J2 24 4 < h ∨ J2 24 4 = h ∧ J2 24 5 < c)) ∨ (s0 = 0 ∧ ¬ (J2 24 4 < h ∨ J2 24 4 = h ∧ J2 24 5 < c))) → K 135 [some (vR g), some (vR 24), some (vR hl), some (vR hm), some (vI b), some (vI h), some (vI c), some (vI (a : Int)), some (vI ((if k = 1 then (a : Int) else (P : Int) - 1))), some (vI (y : Int)), none] [vI s0] (sh, J2, L) (0, 0) := by
            intro s0 hs0
            refine B_X1_choice_135 hK (n141a := by omega) (kt := fun w => yes (Or.inl (b64.1.1 w))) (kf := fun w => ?_)
            have ne : (bsS may E ix).1 ≠ -1 := fun x => w (b64.1.2 x)
            obtain ⟨q1, q2⟩ := hr.2 ne
            refine B_X1_choice_144 hK (n146 := by omega) (kt := fun x => no ?_) (kf := fun x => yes (Or.inr ?_))
            · rw [e1, e2, ← q1, ← q2]
              rintro (u | u)
              · exact ne u
              · omega
            · rw [e1, e2, ← q1, ← q2]
              omega
          refine B_X1_choice_103 hK hs (n109a := by omega) (n109b := by omega) (kt := fun w => ?_) (kf := fun w => ?_)
          · exact B_X1_choice_130 hK (k := cmp 1 (Or.inl ⟨rfl, Or.inl w⟩))
          · refine B_X1_choice_112 hK hs (n118a := by omega) (n118b := by omega) (kt := fun w2 => ?_) (kf := fun w2 => ?_)
            · exact B_X1_choice_134 hK (k := cmp 0 (Or.inr ⟨rfl, by omega⟩))
            · refine B_X1_choice_121 hK hs (n127a := by omega) (n127b := by omega) (kt := fun w3 => ?_) (kf := fun w3 => ?_)
              · exact B_X1_choice_134 hK (k := cmp 0 (Or.inr ⟨rfl, by omega⟩))
              · exact B_X1_choice_130 hK (k := cmp 1 (Or.inl ⟨rfl, by omega⟩))
      have ini : chR k (bsS may E (if k = 1 then a else 8 * a + a)) b h c := by
        rcases hk2 with k1 | k1
        · rw [if_pos k1] at hr ⊢
          exact hr
        · have k1' : ¬ k = 1 := by omega
          rw [if_neg k1'] at hr ⊢
          rw [bsS_rg (may := may) (E := E) (a := 8 * a) a (fun x h1 h2 => by
            have := cd2 k1 a (x - 8 * a) (by omega)
            rw [show 8 * a + (x - 8 * a) = x by omega] at this
            rw [this]
            apply decide_eq_false
            omega)]
          exact hr
      refine B_X1_choice_22 hK (kh0_0 := hg) (n27a := by omega) (kt := fun z => ?_) (kf := fun z => ?_)
      · rw [eg] at z
        refine B_X1_choice_35 hK (Ah2 := A.1) (k := ?_)
        refine B_X1_choice_41 hK (k := ?_)
        rw [e0]
        have := inner (P - a) a J b h c (Nat.le_refl _) (by rw [if_neg z]; omega) F ini hh hc
        rw [if_neg z] at this
        exact this
      · rw [eg] at z
        have z' := Classical.not_not.1 z
        refine B_X1_choice_30 hK (k := ?_)
        refine B_X1_choice_41 hK (k := ?_)
        have := inner 1 a J b h c (Nat.le_refl _) (by rw [if_pos z']) F ini hh hc
        rw [if_pos z'] at this
        exact this
  refine outer P 0 I 64 0 0 (by omega) Fr.rf ?_ (by decide) (by decide)
  have : (if k = 1 then 0 else 8 * 0) = 0 := by split <;> rfl
  rw [this]
  exact ⟨rfl, fun z => absurd rfl z⟩
