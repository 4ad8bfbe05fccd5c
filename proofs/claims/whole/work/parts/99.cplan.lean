/-! the class: a plan's stands, whatever its kind -/
def pK (sh : oS) (I : Nat → Nat → Int) (g : Nat) (kind k n : Int) (T : Nat → Int) : Prop := (g = 19 ∨ 77 ≤ g) ∧ I g 0 = k ∧ I g 1 = n ∧ ((sK sh g = 0 ∧ kind = 0 ∧ (1 ≤ k ∧ k ≤ 3) ∧ 0 ≤ n ∧ n ≤ 7) ∨ (sK sh g = 3 ∧ kind = 1 ∧ (1 ≤ k ∧ k ≤ 3) ∧ 1 ≤ n ∧ n ≤ 9) ∨ (sK sh g = 5 ∧ kind = 2 ∧ (1 ≤ k ∧ k ≤ 3) ∧ 1 ≤ n ∧ n ≤ 9) ∨ (sK sh g = 1 ∧ kind = 3 ∧ (k = 1 ∨ k = 2) ∧ n = 0) ∨ (sK sh g = 10 ∧ kind = 4 ∧ k = 0 ∧ n = 0 ∧ TA sh g ∧ ∃ c : Nat, c ≤ 6 ∧ I g 5 = (c : Int) ∧ (∀ i, i < c → (I (g + 1) i = T (3 * i) ∧ I (g + 2) i = T (3 * i + 1) ∧ I (g + 3) i = T (3 * i + 2)) ∧ (0 ≤ I (g + 1) i ∧ I (g + 1) i ≤ 7) ∧ (0 ≤ I (g + 2) i ∧ I (g + 2) i ≤ 99) ∧ 0 ≤ I (g + 3) i ∧ I (g + 3) i ≤ 99) ∧ ∀ i, c ≤ i → i < 6 → T (3 * i) = -1))
theorem toL_stop {P D : Int} {wd T : Nat → Int} {c : Nat} : ∀ d, (∀ i, c ≤ i → i < c + d → T (3 * i) = -1) → toL P wd D T (c + d) = toL P wd D T c
  | 0, _ => rfl
  | d + 1, h => by
    show toL P wd D T (c + d + 1) = _
    rw [toL, if_pos (h (c + d) (by omega) (by omega))]
    exact toL_stop d (fun i h1 h2 => h i h1 (by omega))
theorem cdC_L {P D : Int} {wd : Nat → Int} {k b : Int} (hk : k = 1 ∨ k = 2) (hb : -1 ≤ b) (hb2 : b < (if k = 1 then 8 else 64 : Nat)) : (if cdC k b = 64 then [] else two P wd D k (cdC k b / 8) (cdC k b % 8)) = bsL P wd D k b ∧ 0 ≤ cdC k b ∧ cdC k b ≤ 64 := by
  unfold cdC bsL bTw bA
  by_cases z : b = -1
  · rw [if_pos z, if_pos rfl, if_pos z]
    exact ⟨rfl, by decide, by decide⟩
  · rw [if_neg z, if_neg z]
    rcases hk with k1 | k1
    · rw [if_pos k1] at hb2 ⊢
      rw [if_pos k1]
      have b8 : b < 8 := hb2
      rw [if_neg (by omega), show 9 * b / 8 = b by omega, show 9 * b % 8 = b by omega, show ((b.toNat : Nat) : Int) = b by omega, show ((b.toNat % 8 : Nat) : Int) = b by omega]
      exact ⟨rfl, by omega, by omega⟩
    · have k1' : ¬ k = 1 := by omega
      rw [if_neg k1'] at hb2 ⊢
      rw [if_neg k1']
      have b8 : b < 64 := hb2
      rw [if_neg (by omega), show ((b.toNat / 8 : Nat) : Int) = b / 8 by omega, show ((b.toNat % 8 : Nat) : Int) = b % 8 by omega]
      exact ⟨rfl, by omega, by omega⟩
noncomputable def rwC (I : Nat → Nat → Int) (hl hf hw hm P D : Nat) (kind k n : Int) (T : Nat → Int) : List stT := rawL P (I hf) (I hw) (I hl 3) (I hl 4) (I hl 5) D (I (hm + 1)) (I (hm + 2)) (fShl 1 (I hm 1) - 1) kind k n T
theorem s_pitch1 {sh : oS} {I : Nat → Nat → Int} {L : Nat → Nat → Int64} {Q : oQ} (hs : Sh sh) {hl hf hw hm P D g : Nat} {k many n : Int} {T : Nat → Int} (A : LA sh hl hf hw) (M : MA sh hm) (hg : sK sh g = 1) (hg2 : g = 19 ∨ 77 ≤ g) (hL : lHas I hl hf hw P) (hM : mHas I hm D) (hD1 : 1 ≤ D) (hk : I g 0 = k) (hk2 : k = 1 ∨ k = 2)
    (kk : ∀ J, FrK I J → cSt J (rwC I hl hf hw hm P D 3 k n T) → Q none (sh, J, L)) : T_X1_pitch [vR g, vR 24, vR hl, vR hm, vI many] (sh, I, L) Q := by
  refine And.intro (Nat.le_of_ble_eq_true rfl) (fun K hK => ?_)
  refine B_X1_pitch_0 hK (kh0_0 := hg) (k := ?_)
  refine s_choice hs A M hg hg2 hL hM hD1 hk hk2 (fun J F => ?_)
  have s := F.lm A M
  refine B_X1_pitch_11 hK (ks0_0 := hg) (k := ?_)
  generalize hb : (bsS (bMay P (I hw) k) (bsE P (I hf) (I hw) (I (hm + 1)) (colP P (I (hm + 2)) (fShl 1 (I hm 1) - 1)) D k (I hl 3) (I hl 4) (I hl 5)) (if k = 1 then 8 else 64)).1 = b
  have bd := bsS_bd (may := bMay P (I hw) k) (E := bsE P (I hf) (I hw) (I (hm + 1)) (colP P (I (hm + 2)) (fShl 1 (I hm 1) - 1)) D k (I hl 3) (I hl 4) (I hl 5)) (if k = 1 then 8 else 64)
  rw [hb] at bd
  obtain ⟨c1, c2⟩ := cdC_L (P := P) (D := D) (wd := I hw) hk2 bd.1 bd.2
  refine s_settle hs A M hg hg2 (hL.eq s) (hM.eq s) (by rw [F.g (by omega)]; exact hk) hk2 c2 (fun J2 F2 q2 => ?_)
  rw [s.2.2.1, c1] at q2
  refine B_X1_pitch_14 hK (k := kk J2 (F.t F2) ?_)
  unfold rwC rawL
  rw [if_neg (by decide), if_pos rfl]
  rw [← hb] at q2
  exact q2
theorem pitch_all {sh : oS} {I : Nat → Nat → Int} {L : Nat → Nat → Int64} {Q : oQ} (hs : Sh sh) {hl hf hw hm P D g : Nat} {kind k n more many : Int} {T : Nat → Int} (A : LA sh hl hf hw) (M : MA sh hm) (hp : pK sh I g kind k n T) (hL : lHas I hl hf hw P) (hM : mHas I hm D) (hD1 : 1 ≤ D) (hmo : many = k + more) (hmo2 : more = 0 ∨ (more = 1 ∧ kind ≤ 2 ∧ k < 3))
    (kk : ∀ J, FrK I J → cSt J (rwC I hl hf hw hm P D kind (k + more) n T) → Q none (sh, J, L)) :
    (sK sh g = 0 → T_X0_pitch [vR g, vR 24, vR hl, vR hm, vI many] (sh, I, L) Q) ∧ (sK sh g = 1 → T_X1_pitch [vR g, vR 24, vR hl, vR hm, vI many] (sh, I, L) Q) ∧ (sK sh g = 3 → T_X3_pitch [vR g, vR 24, vR hl, vR hm, vI many] (sh, I, L) Q) ∧ (sK sh g = 5 → T_X3_pitch [vR g, vR 24, vR hl, vR hm, vI many] (sh, I, L) Q) ∧ (sK sh g = 10 → T_X10_pitch [vR g, vR 24, vR hl, vR hm, vI many] (sh, I, L) Q) ∧ sK sh g ∈ [0, 1, 3, 5, 10] := by
  obtain ⟨g0, g1, g2, gc⟩ := hp
  have fol : ∀ kd : Int, (kd = 1 ∨ kd = 2) → kind = kd → ((sK sh g = 3 ∧ kind = 1) ∨ (sK sh g = 5 ∧ kind = 2)) → (1 ≤ k ∧ k ≤ 3) → 1 ≤ n ∧ n ≤ 9 → T_X3_pitch [vR g, vR 24, vR hl, vR hm, vI many] (sh, I, L) Q := by
    intro kd hkd hk1 hc hk hn
    have e : many = ((many.toNat : Nat) : Int) := by omega
    rw [e]
    refine s_pitch3 hs A M hc g0 hL hM hD1 (by omega) (by omega) (fun J F c => kk J F ?_)
    unfold rwC rawL
    rw [if_neg (by omega), if_neg (by omega), if_neg (by omega)]
    rw [g2, hmo] at c
    exact c
  rcases gc with ⟨c1, c2, c3, c4, c5⟩ | ⟨c1, c2, c3, c4, c5⟩ | ⟨c1, c2, c3, c4, c5⟩ | ⟨c1, c2, c3, c4⟩ | ⟨c1, c2, c3, c4, c5, c, c6, c7, c8, c9⟩
  · refine ⟨fun _ => ?_, fun z => absurd z (by omega), fun z => absurd z (by omega), fun z => absurd z (by omega), fun z => absurd z (by omega), by rw [c1]; decide⟩
    have e : many = ((many.toNat : Nat) : Int) := by omega
    rw [e]
    refine s_pitch0 hs A M (by rw [c1]; decide) g0 hL hM (by omega) (by omega) (fun J F c => kk J F ?_)
    unfold rwC rawL
    rw [if_pos c2]
    rw [g2, hmo] at c
    exact c
  · refine ⟨fun z => absurd z (by omega), fun z => absurd z (by omega), fun _ => ?_, fun z => absurd z (by omega), fun z => absurd z (by omega), by rw [c1]; decide⟩
    exact fol 1 (Or.inl rfl) c2 (Or.inl ⟨c1, c2⟩) c3 ⟨c4, c5⟩
  · refine ⟨fun z => absurd z (by omega), fun z => absurd z (by omega), fun z => absurd z (by omega), fun _ => ?_, fun z => absurd z (by omega), by rw [c1]; decide⟩
    exact fol 2 (Or.inr rfl) c2 (Or.inr ⟨c1, c2⟩) c3 ⟨c4, c5⟩
  · refine ⟨fun z => absurd z (by omega), fun _ => ?_, fun z => absurd z (by omega), fun z => absurd z (by omega), fun z => absurd z (by omega), by rw [c1]; decide⟩
    have m0 : more = 0 := by omega
    subst c2
    refine s_pitch1 (n := n) (T := T) hs A M c1 g0 hL hM hD1 g1 c3 (fun J F c => kk J F ?_)
    rw [m0, Int.add_zero]
    exact c
  · refine ⟨fun z => absurd z (by omega), fun z => absurd z (by omega), fun z => absurd z (by omega), fun z => absurd z (by omega), fun _ => ?_, by rw [c1]; decide⟩
    refine s_pitch10 hs A M c5 hL hM c7 c6 (fun i hi => (c8 i hi).2) (fun J F q => kk J F ?_)
    unfold rwC rawL
    rw [if_neg (by omega), if_neg (by omega), if_pos c2]
    have e1 := toL_stop (P := P) (D := D) (wd := I hw) (T := T) (c := c) (6 - c) (fun i h1 h2 => c9 i h1 (by omega))
    rw [show c + (6 - c) = 6 by omega] at e1
    rw [e1, toL_cg (fun _ _ => rfl) D (T' := tdT I g) c (fun x hx => ?_)]
    · exact q
    · have e3 := (c8 (x / 3) (by omega)).1
      have e4 := tdT_3 (I := I) (g := g) (i := x / 3)
      have : x = 3 * (x / 3) ∨ x = 3 * (x / 3) + 1 ∨ x = 3 * (x / 3) + 2 := by omega
      rcases this with z | z | z
      · rw [z, e4.1]; exact e3.1.symm
      · rw [z, e4.2.1]; exact e3.2.1.symm
      · rw [z, e4.2.2]; exact e3.2.2.symm
theorem flF_l30 {P D : Int} {wd : Nat → Int} {sp : Int → Int} {k : Nat} {n : Int} (hsp : ∀ t, -1 ≤ sp t ∧ sp t < 8) (hn : 1 ≤ n) (hD : D ≤ 10) (hk : k ≤ 3) : ∀ f t last (l : List stT), 0 ≤ t → (-1 ≤ last ∧ last < 8) → (l.length : Int) ≤ k * t → l.length ≤ 30 → (flF P wd D sp k n f t last l).length ≤ 30
  | 0, t, last, l, _, _, _, h => h
  | f + 1, t, last, l, ht, hl, hq, h => by
    have b := skF_bd (D := D) hsp 10 t
    have c := dif_bd hl ⟨b.2.2.1, b.2.2.2⟩
    unfold flF
    generalize he : (if last = -1 then 0 else dif last (skF D sp 10 t).2) = e
    have e0 : 0 ≤ e := by rw [← he]; split <;> omega
    split
    · exact h
    · split
      · exact h
      · rename_i z
        have len := addS_len (P := P) (D := D) (p := (skF D sp 10 t).2) (f := (skF D sp 10 t).1 + e) (t := (skF D sp 10 t).1 + e + n - 1) (wd := wd) (l := l) k
        generalize (skF D sp 10 t).1 = t1 at *
        have m1 : (k : Int) * t ≤ k * (t1 + e) := Int.mul_le_mul_of_nonneg_left (by omega) (by omega)
        have m2 : (k : Int) * (t1 + e) + k = k * (t1 + e + 1) := by rw [Int.mul_add (k : Int) (t1 + e) 1, Int.mul_one]
        have m3 : (k : Int) * (t1 + e + 1) ≤ k * (t1 + e + n) := Int.mul_le_mul_of_nonneg_left (by omega) (by omega)
        have m4 : (k : Int) * (t1 + e + 1) ≤ k * 10 := Int.mul_le_mul_of_nonneg_left (by omega) (by omega)
        exact flF_l30 hsp hn hD hk f _ _ _ (by omega) ⟨b.2.2.1, b.2.2.2⟩ (by omega) (by omega)
set_option maxHeartbeats 1000000 in
theorem rawL_30 {P D way kind k n bk bd kp : Int} {F wd men S T : Nat → Int} (h : pOK kind k n T) (hk : k ≤ 3) (hP : 1 ≤ P ∧ P ≤ 8) (hD : D ≤ 10) : (rawL P F wd bk bd kp D men S way kind k n T).length ≤ 30 := by
  obtain ⟨h1, h2, h3, h4, h5⟩ := h
  have cb : ∀ d, 0 ≤ colP P S way d ∧ colP P S way d < 8 := fun d => by
    have := colP_bd (P := P) (S := S) (way := way) hP.1 d
    omega
  unfold rawL
  by_cases z0 : kind = 0
  · rw [if_pos z0]
    have a := addS_len (P := P) (D := D) (p := n) (f := n) (t := D) (wd := wd) (l := []) k.toNat
    have l0 : ([] : List stT).length = 0 := rfl
    omega
  · rw [if_neg z0]
    by_cases z3 : kind = 3
    · rw [if_pos z3]
      exact Nat.le_trans bsL_len (by decide)
    · rw [if_neg z3]
      by_cases z4 : kind = 4
      · rw [if_pos z4]
        exact Nat.le_trans (toL_len 6) (by decide)
      · rw [if_neg z4]
        have hn := h4 (by omega)
        exact flF_l30 (fun t => spD_bd cb) hn.1 hD (by omega) 10 0 (-1) [] (by omega) (by omega) (by simp) (by decide)
theorem mOK.r30 {I : Nat → Nat → Int} (h : mOK I) {m p : Nat} {more : Int} (hp : (p : Int) < I 44 14) (hm : (m : Int) < I 44 8) (h0 : I 44 0 ≠ 0) (hmo : 0 ≤ more ∧ I 53 p + more ≤ 3) : (pRaw I m p more).length ≤ 30 := by
  obtain ⟨h1, h2, h3, h4, h5, h6, h7, h8, h9, h10, h11⟩ := h
  have hm' := h9 m hm
  obtain ⟨q0, o1, o2, o3, o4, o5⟩ := h11 p hp
  exact rawL_30 ⟨o1, by omega, o3, o4, o5⟩ hmo.2 (by omega) (by omega)
