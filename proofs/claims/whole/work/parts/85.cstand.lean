/-! the class: where a column is, one stand more -/
theorem clamp_f {P x : Int} (h : 1 ≤ P) : fMax 0 (fMin (P - 1) x) = clampP P x := by
  unfold fMax fMin clampP
  repeat' split
  all_goals omega
theorem fAnd1_bd (x : Int) : 0 ≤ fAnd x 1 ∧ fAnd x 1 ≤ 1 := by
  have := fAnd1 x
  omega
/-- a march in the class's memory -/
def mHas (I : Nat → Nat → Int) (h D : Nat) : Prop := I h 0 = (D : Int) ∧ D ≤ 10 ∧ (∀ d, d < D → -1 ≤ I (h + 2) d ∧ I (h + 2) d ≤ 2) ∧ (∀ d, d < D → 0 ≤ I (h + 1) d ∧ I (h + 1) d ≤ 99) ∧ 0 ≤ I h 1 ∧ I h 1 ≤ 2
theorem s_cwalk {sh : oS} {I : Nat → Nat → Int} {L : Nat → Nat → Int64} {Q : oQ} (hs : Sh sh) {h D : Nat} (A : MA sh h) {way P : Int} (hm : mHas I h D) (hP : 1 ≤ P ∧ P ≤ 1000) (k : ∀ J, Fr [29] [] I J → (∀ d, d < D → J 29 d = colP P (I (h + 2)) way d) → Q none (sh, J, L)) : T_X6_walk [vR h, vI P, vI way, vR 29] (sh, I, L) Q := by
  refine And.intro (Nat.le_of_ble_eq_true rfl) (fun K hK => ?_)
  obtain ⟨M, hh⟩ := id A
  obtain ⟨hD, hD2, hS, -, -⟩ := hm
  refine B_X6_walk_0 hK (k := ?_)
  have lp : ∀ (r d : Nat) (J : Nat → Nat → Int), d + r = D → Fr [29] [] I J → (∀ x, x < d → J 29 x = colP P (I (h + 2)) way x) → K 9 [some (vR h), some (vI P), some (vI way), some (vR 29), some (vI (wkP P (I (h + 2)) way d).1), some (vI (wkP P (I (h + 2)) way d).2), some (vI (d : Int)), none] [] (sh, J, L) (0, 0) := by
    intro r
    induction r with
    | zero =>
      intro d J hd F c
      have e : J h 0 = (D : Int) := by rw [F h 0 (by simp <;> omega) (by simp)]; exact hD
      refine B_X6_walk_9 hK (Ah0 := M) (n15a := by omega) (n15b := by omega) (kt := fun _ => ?_) (kf := fun z => absurd (by omega) z)
      exact B_X6_walk_80 hK (k := k J F (fun x hx => c x (by omega)))
    | succ r ih =>
      intro d J hd F c
      have e : J h 0 = (D : Int) := by rw [F h 0 (by simp <;> omega) (by simp)]; exact hD
      have e2 : J (h + 2) d = I (h + 2) d := F (h + 2) d (by simp <;> omega) (by simp)
      have b := wkP_bd (P := P) (S := I (h + 2)) (way := way) hP.1 d
      have sb := hS d (by omega)
      have f1 := fAnd1_bd (fShr way (wkP P (I (h + 2)) way d).2)
      refine B_X6_walk_9 hK (Ah0 := M) (n15a := by omega) (n15b := by omega) (kt := fun z => absurd z (by omega)) (kf := fun _ => ?_)
      refine B_X6_walk_18 hK hs (n22a := by omega) (n22b := by rw [sl_29 hs]; decide) (kt := fun z => absurd z (by rw [sl_29 hs]; omega)) (kf := fun _ => ?_)
      have tl : ∀ x7 : Int, x7 = (if I (h + 2) d = 2 then fAnd (fShr way (wkP P (I (h + 2)) way d).2) 1 else I (h + 2) d) → K 51 [some (vR h), some (vI P), some (vI way), some (vR 29), some (vI (wkP P (I (h + 2)) way d).1), some (vI (wkP P (I (h + 2)) way (d + 1)).2), some (vI (d : Int)), some (vI x7)] [] (sh, J, L) (0, 0) := by
        intro x7 hx
        have xb : -1 ≤ x7 ∧ x7 ≤ 2 := by rw [hx]; split <;> omega
        refine B_X6_walk_51 hK hs (n60a := by omega) (n60b := by omega) (n63b := by unfold fMin; split <;> omega) (b73 := by omega) (k := ?_)
        rw [clamp_f hP.1, Int.toNat_natCast]
        have e3 : clampP P ((wkP P (I (h + 2)) way d).1 + x7) = (wkP P (I (h + 2)) way (d + 1)).1 := by
          rw [hx]
          rfl
        rw [e3]
        refine ih (d + 1) _ (by omega) (F.u 29 d _ (by simp)) (fun x hx => ?_)
        by_cases q : x = d
        · subst q
          rw [uA]
          rfl
        · rw [uK q]
          exact c x (by omega)
      refine B_X6_walk_25 hK (Ah0 := M) (b31 := by omega) (n37a := by rw [Int.toNat_natCast, e2]; omega) (kt := fun z => ?_) (kf := fun z => ?_)
      · rw [Int.toNat_natCast, e2] at z ⊢
        have := tl (I (h + 2) d) (by rw [if_neg z])
        have e4 : (wkP P (I (h + 2)) way (d + 1)).2 = (wkP P (I (h + 2)) way d).2 := by
          show (if I (h + 2) d = 2 then _ else _) = _
          rw [if_neg z]
        rw [e4] at this
        exact this
      · rw [Int.toNat_natCast, e2] at z
        have z2 := Classical.not_not.1 z
        refine B_X6_walk_40 hK (k := ?_)
        have := tl (fAnd (fShr way (wkP P (I (h + 2)) way d).2) 1) (by rw [if_pos z2])
        have e4 : (wkP P (I (h + 2)) way (d + 1)).2 = (wkP P (I (h + 2)) way d).2 + 1 := by
          show (if I (h + 2) d = 2 then _ else _) = _
          rw [if_pos z2]
        rw [e4] at this
        exact this
  exact lp D 0 I (by omega) Fr.rf (fun x hx => absurd hx (by omega))
theorem s_has {sh : oS} {I : Nat → Nat → Int} {L : Nat → Nat → Int64} {Q : oQ} {h f w : Nat} (A : LandAt sh h f w) {p : Int} (hp : inR p) (hP : inR (I h 0)) (k : ∀ r, (r = 1 ∧ 0 ≤ p ∧ p < I h 0) ∨ (r = 0 ∧ ¬ (0 ≤ p ∧ p < I h 0)) → Q (some (vI r)) (sh, I, L)) : T_X4_has [vR h, vI p] (sh, I, L) Q := by
  refine And.intro (Nat.le_of_ble_eq_true rfl) (fun K hK => ?_)
  have no : ¬ (0 ≤ p ∧ p < I h 0) → K 16 [none, none] [] (sh, I, L) (0, 0) := fun z =>
    B_X4_has_16 hK (k := B_X4_has_17 hK (o17 := Or.inl rfl) (k := k 0 (Or.inr ⟨rfl, z⟩)))
  refine B_X4_has_0 hK (n1 := hp) (kt := fun z => no (by omega)) (kf := fun z => ?_)
  refine B_X4_has_4 hK (Ah0 := A) (n9a := hp) (n9b := hP) (kt := fun z2 => no (by omega)) (kf := fun z2 => ?_)
  exact B_X4_has_12 hK (k := B_X4_has_17 hK (o17 := Or.inr rfl) (k := k 1 (Or.inl ⟨rfl, by omega⟩)))
/-- a stand in the class's rows -/
def cAt (J : Nat → Nat → Int) (i : Nat) (s : stT) : Prop := J 26 i = s.1 ∧ J 27 i = s.2.1 ∧ J 28 i = s.2.2
def cLs (J : Nat → Nat → Int) (l : List stT) : Prop := J 25 3 = (l.length : Int) ∧ ∀ i, i < l.length → cAt J i (stG l i)
/-- the stands, in their order -/
def cSt (J : Nat → Nat → Int) (l : List stT) : Prop := ∃ l2, cLs J l2 ∧ l2.Perm l ∧ l2.Pairwise nAh
theorem cSt.nil {J : Nat → Nat → Int} (h : J 25 3 = 0) : cSt J [] := ⟨[], ⟨h, fun i hi => absurd hi (Nat.not_lt_zero i)⟩, List.Perm.refl _, List.Pairwise.nil⟩
theorem cSt.fr {I J : Nat → Nat → Int} {l : List stT} (h : cSt I l) (e : J 25 3 = I 25 3) (e1 : J 26 = I 26) (e2 : J 27 = I 27) (e3 : J 28 = I 28) : cSt J l := by
  obtain ⟨l2, ⟨a, b⟩, c, d⟩ := h
  refine ⟨l2, ⟨by rw [e]; exact a, fun i hi => ?_⟩, c, d⟩
  unfold cAt
  rw [e1, e2, e3]
  exact b i hi
def stSm (l : List stT) : Prop := ∀ s, s ∈ l → inR s.1 ∧ inR s.2.1 ∧ inR s.2.2
theorem s_isBehind {sh : oS} {I : Nat → Nat → Int} {L : Nat → Nat → Int64} {Q : oQ} (hs : Sh sh) {i : Nat} {s t : stT} (hi : i < 30) (h : cAt I i t) (ht : inR t.1 ∧ inR t.2.1 ∧ inR t.2.2) (hsm : inR s.1 ∧ inR s.2.1 ∧ inR s.2.2) (k : ∀ r, (r = 1 ∧ ahd s t) ∨ (r = 0 ∧ ¬ ahd s t) → Q (some (vI r)) (sh, I, L)) : T_X9_isBehind [vR 25, vI (i : Int), vI s.1, vI s.2.1, vI s.2.2] (sh, I, L) Q := by
  refine And.intro (Nat.le_of_ble_eq_true rfl) (fun K hK => ?_)
  obtain ⟨e1, e2, e3⟩ := h
  have t0 : (i : Int).toNat = i := Int.toNat_natCast i
  refine B_X9_isBehind_0 hK hs (b5 := by omega) (n7a := by rw [t0, e2]; exact ht.2.1) (n7b := hsm.2.1) (kt := fun z => ?_) (kf := fun z => ?_)
  · rw [t0, e2] at z
    refine B_X9_isBehind_26 hK hs (b31 := by omega) (n33a := by rw [t0, e1]; exact ht.1) (n33b := hsm.1) (kt := fun z2 => ?_) (kf := fun z2 => ?_)
    · rw [t0, e1] at z2
      refine B_X9_isBehind_54 hK hs (b59 := by omega) (n62a := by rw [t0, e3]; exact ht.2.2) (n62b := hsm.2.2) (kt := fun z3 => ?_) (kf := fun z3 => ?_)
      · rw [t0, e3] at z3
        exact B_X9_isBehind_69 hK (k := B_X9_isBehind_70 hK (o70 := Or.inl rfl) (k := k 0 (Or.inr ⟨rfl, by unfold ahd; omega⟩)))
      · rw [t0, e3] at z3
        exact B_X9_isBehind_65 hK (k := B_X9_isBehind_70 hK (o70 := Or.inr rfl) (k := k 1 (Or.inl ⟨rfl, by unfold ahd; omega⟩)))
    · rw [t0, e1] at z2
      refine B_X9_isBehind_36 hK hs (b41 := by omega) (n43a := by rw [t0, e1]; exact ht.1) (n43b := hsm.1) (kt := fun z3 => ?_) (kf := fun z3 => ?_)
      · rw [t0, e1] at z3
        exact B_X9_isBehind_50 hK (k := B_X9_isBehind_70 hK (o70 := Or.inl rfl) (k := k 0 (Or.inr ⟨rfl, by unfold ahd; omega⟩)))
      · rw [t0, e1] at z3
        exact B_X9_isBehind_46 hK (k := B_X9_isBehind_70 hK (o70 := Or.inr rfl) (k := k 1 (Or.inl ⟨rfl, by unfold ahd; omega⟩)))
  · rw [t0, e2] at z
    refine B_X9_isBehind_10 hK hs (b15 := by omega) (n17a := by rw [t0, e2]; exact ht.2.1) (n17b := hsm.2.1) (kt := fun z3 => ?_) (kf := fun z3 => ?_)
    · rw [t0, e2] at z3
      exact B_X9_isBehind_24 hK (k := B_X9_isBehind_25 hK (o25 := Or.inl rfl) (k := k 0 (Or.inr ⟨rfl, by unfold ahd; omega⟩)))
    · rw [t0, e2] at z3
      exact B_X9_isBehind_20 hK (k := B_X9_isBehind_25 hK (o25 := Or.inr rfl) (k := k 1 (Or.inl ⟨rfl, by unfold ahd; omega⟩)))
theorem stG_lo {A B : List stT} {i : Nat} (h : i < A.length) : stG (A ++ B) i = stG A i := by
  unfold stG
  simp [List.getD_eq_getElem?_getD, List.getElem?_append_left h]
theorem stG_hi {A B : List stT} {i : Nat} : stG (A ++ B) (A.length + i) = stG B i := by
  unfold stG
  rw [List.getD_eq_getElem?_getD, List.getD_eq_getElem?_getD, List.getElem?_append_right (by omega), show A.length + i - A.length = i by omega]
abbrev FrW (I J : Nat → Nat → Int) : Prop := Fr [26, 27, 28] [(25, 3)] I J
set_option maxHeartbeats 1000000 in
theorem s_cadd {sh : oS} {I : Nat → Nat → Int} {L : Nat → Nat → Int64} {Q : oQ} (hs : Sh sh) {hl hf hw hm : Nat} (A : LandAt sh hl hf hw) (M : MA sh hm) {p f t : Int} {l : List stT} (hP : 0 ≤ I hl 0 ∧ I hl 0 ≤ 8) (hD : 0 ≤ I hm 0 ∧ I hm 0 ≤ 10) (hW : ∀ x : Nat, (x : Int) < I hl 0 → inR (I hw x)) (hp : inR p) (hff : inR f) (ht : inR t) (hc : cSt I l) (hn : l.length < 30) (hsm : stSm l)
    (k : ∀ J, FrW I J → cSt J (addF (I hl 0) (I hw) (I hm 0) p f t l) → Q none (sh, J, L)) : T_X9_add [vR 25, vR hl, vR hm, vI p, vI f, vI t] (sh, I, L) Q := by
  refine And.intro (Nat.le_of_ble_eq_true rfl) (fun K hK => ?_)
  have MM := M.1
  have fm : fMin t (I hm 0 - 1) = (if I hm 0 - 1 ≤ t then I hm 0 - 1 else t) := by
    unfold fMin
    split <;> split <;> omega
  generalize ht2 : (if I hm 0 - 1 ≤ t then I hm 0 - 1 else t) = t2 at *
  have ht2i : inR t2 := by rw [← ht2]; split <;> omega
  refine B_X9_add_0 hK (Ah2 := MM) (n8a := ht) (n8b := by omega) (Ah1 := A) (k := ?_)
  rw [fm]
  have out : addF (I hl 0) (I hw) (I hm 0) p f t l = l → K 46 [none, none, none, none, none, none, none, none] [] (sh, I, L) (0, 0) := fun e =>
    B_X9_add_46 hK (k := k I Fr.rf (by rw [e]; exact hc))
  refine s_has A hp (by omega) (fun r hr => ?_)
  refine B_X9_add_18 hK (n18 := by omega) (kt := fun z => out ?_) (kf := fun z => ?_)
  · unfold addF
    rw [if_neg (fun y => by have := y.1.1; omega)]
  have gp : 0 ≤ p ∧ p < I hl 0 := by omega
  refine B_X9_add_21 hK (Ah1 := A) (b26 := by omega) (n27 := hW _ (by omega)) (kt := fun z2 => out ?_) (kf := fun z2 => ?_)
  · unfold addF
    rw [if_neg (fun y => y.1.2 z2)]
  refine B_X9_add_30 hK (n34a := hff) (n34b := ht2i) (kt := fun z3 => out ?_) (kf := fun z3 => ?_)
  · unfold addF
    rw [ht2, if_neg (fun y => by have := y.2; omega)]
  obtain ⟨l2, ⟨c1, c2⟩, cp, cw⟩ := hc
  have len : l2.length = l.length := cp.length_eq
  refine B_X9_add_37 hK hs (n43a := by omega) (kt := fun _ => ?_) (kf := fun y => absurd (by omega) y)
  refine B_X9_add_47 hK hs (k := ?_)
  have eA : addF (I hl 0) (I hw) (I hm 0) p f t l = l ++ [(p, f, t2)] := by
    unfold addF
    rw [ht2, if_pos ⟨⟨gp, z2⟩, by omega⟩]
  rw [eA] at k
  -- the place is found
  have fin : ∀ (X Y : List stT) (J : Nat → Nat → Int), l2 = X ++ Y → FrW I J → J 25 3 = (l2.length : Int) → (∀ x, x < X.length → cAt J x (stG X x)) → (∀ x, x < Y.length → cAt J (X.length + 1 + x) (stG Y x)) → (∀ b ∈ Y, ahd (p, f, t2) b) → (∀ a ∈ X, nAh a (p, f, t2)) → K 128 [some (vR 25), none, none, some (vI p), some (vI f), none, some (vI t2), some (vI (X.length : Int))] [] (sh, J, L) (0, 0) := by
    intro X Y J e F n0 q1 q2 q3 q4
    have ll : X.length + Y.length = l2.length := by rw [e]; simp
    refine B_X9_add_128 hK hs (b135 := by omega) (k := ?_)
    rw [Int.toNat_natCast]
    refine k _ ((((F.u 26 _ _ (by simp)).u 27 _ _ (by simp)).u 28 _ _ (by simp)).u 25 3 _ (by simp)) ⟨X ++ (p, f, t2) :: Y, ⟨?_, fun i hi => ?_⟩, ?_, ?_⟩
    · rw [uA, n0]
      simp
      omega
    · have rd : ∀ y, y ≠ X.length → cAt (u2 (u2 (u2 (u2 J 26 X.length p) 27 X.length f) 28 X.length t2) 25 3 (J 25 3 + 1)) y = cAt J y := by
        intro y hy
        funext s
        unfold cAt
        rw [uN (by decide), uN (by decide), uN (by decide), uK hy, uN (by decide), uN (by decide), uK hy, uN (by decide), uN (by decide), uK hy, uN (by decide), uN (by decide)]
      rcases Nat.lt_trichotomy i X.length with y | y | y
      · rw [stG_lo y, rd i (by omega)]
        exact q1 i y
      · subst y
        rw [stG_at]
        refine ⟨?_, ?_, ?_⟩
        · rw [uN (by decide), uN (by decide), uN (by decide), uA]
        · rw [uN (by decide), uN (by decide), uA]
        · rw [uN (by decide), uA]
      · have hi2 : i - (X.length + 1) < Y.length := by simp at hi; omega
        have e2 : stG (X ++ (p, f, t2) :: Y) i = stG Y (i - (X.length + 1)) := by
          rw [show X ++ (p, f, t2) :: Y = (X ++ [(p, f, t2)]) ++ Y by simp, show i = (X ++ [(p, f, t2)]).length + (i - (X.length + 1)) by simp; omega, stG_hi]
          simp
        rw [e2, rd i (by omega), show i = X.length + 1 + (i - (X.length + 1)) by omega]
        have := q2 _ hi2
        rw [show X.length + 1 + (i - (X.length + 1)) - (X.length + 1) = i - (X.length + 1) by omega]
        exact this
    · refine List.perm_middle.trans ?_
      rw [← e]
      exact (List.Perm.cons _ cp).trans (List.perm_append_singleton _ _).symm
    · rw [e] at cw
      rw [List.pairwise_append] at cw ⊢
      obtain ⟨w1, w2, w3⟩ := cw
      refine ⟨w1, List.Pairwise.cons (fun b hb => ahd_n (q3 b hb)) w2, fun a ha b hb => ?_⟩
      rcases List.mem_cons.1 hb with y | y
      · subst y
        exact q4 a ha
      · exact w3 a ha b y
  have lp : ∀ (n : Nat) (X Y : List stT) (J : Nat → Nat → Int), X.length = n → l2 = X ++ Y → FrW I J → J 25 3 = (l2.length : Int) → (∀ x, x < X.length → cAt J x (stG X x)) → (∀ x, x < Y.length → cAt J (X.length + 1 + x) (stG Y x)) → (∀ b ∈ Y, ahd (p, f, t2) b) → K 53 [some (vR 25), none, none, some (vI p), some (vI f), none, some (vI t2), some (vI (n : Int))] [] (sh, J, L) (0, 0) := by
    intro n
    induction n with
    | zero =>
      intro X Y J hX e F n0 q1 q2 q3
      refine B_X9_add_53 hK (n55 := by decide) (kt := fun _ => ?_) (kf := fun y => absurd (by decide) y)
      have : X = [] := List.length_eq_zero_iff.1 hX
      subst this
      exact fin [] Y J e F n0 q1 q2 q3 (fun a ha => absurd ha List.not_mem_nil)
    | succ n ih =>
      intro X Y J hX e F n0 q1 q2 q3
      have ll : X.length + Y.length = l2.length := by rw [e]; simp
      obtain ⟨X', a, rfl⟩ : ∃ X' a, X = X' ++ [a] := by
        rcases List.eq_nil_or_concat X with y | ⟨X', a, y⟩
        · subst y
          simp at hX
        · exact ⟨X', a, by rw [y]; simp⟩
      have hX' : X'.length = n := by simp at hX; omega
      have am : a ∈ l := cp.subset (by rw [e]; simp)
      refine B_X9_add_53 hK (n55 := by omega) (kt := fun y => absurd y (by omega)) (kf := fun _ => ?_)
      refine B_X9_add_58 hK hs (k := ?_)
      have ea : cAt J n a := by
        have := q1 n (by simp <;> omega)
        rw [← hX', show stG (X' ++ [a]) X'.length = a from stG_at, hX'] at this
        exact this
      rw [show ((n + 1 : Nat) : Int) - 1 = (n : Int) by omega]
      refine s_isBehind hs (s := (p, f, t2)) (by omega) ea (hsm a am) ⟨hp, hff, ht2i⟩ (fun r hr => ?_)
      refine B_X9_add_71 hK (n71 := by omega) (kt := fun y => ?_) (kf := fun y => ?_)
      · have na : nAh a (p, f, t2) := by
          rcases hr with ⟨w, -⟩ | ⟨-, w⟩
          · omega
          · exact w
        have := fin (X' ++ [a]) Y J e F n0 q1 q2 q3 (fun b hb => ?_)
        · rw [show ((X' ++ [a]).length : Int) = ((n + 1 : Nat) : Int) by rw [hX]] at this
          exact this
        · rcases List.mem_append.1 hb with w | w
          · rw [e, List.append_assoc, List.pairwise_append] at cw
            exact nAh_tr (cw.2.2 b w a (by simp)) na
          · rw [List.mem_singleton.1 w]
            exact na
      · have sa : ahd (p, f, t2) a := by
          rcases hr with ⟨-, w⟩ | ⟨w, -⟩
          · exact w
          · omega
        refine B_X9_add_74 hK hs (b88 := by omega) (b89 := by omega) (k := ?_)
        rw [show ((n + 1 : Nat) : Int) - 1 = (n : Int) by omega, show ((n + 1 : Nat) : Int) + (-1) = (n : Int) by omega, Int.toNat_natCast, Int.toNat_natCast]
        have rd : ∀ y, y ≠ n + 1 → cAt (u2 (u2 (u2 J 26 (n + 1) (J 26 n)) 27 (n + 1) (J 27 n)) 28 (n + 1) (J 28 n)) y = cAt J y := by
          intro y hy
          funext s
          unfold cAt
          rw [uN (by decide), uN (by decide), uK hy, uN (by decide), uK hy, uN (by decide), uK hy, uN (by decide), uN (by decide)]
        refine ih X' (a :: Y) _ hX' (by rw [e]; simp) (((F.u 26 _ _ (by simp)).u 27 _ _ (by simp)).u 28 _ _ (by simp)) (by rw [uN (by decide), uN (by decide), uN (by decide)]; exact n0) (fun x hx => ?_) (fun x hx => ?_) (fun b hb => ?_)
        · rw [rd x (by omega)]
          have := q1 x (by simp <;> omega)
          rw [stG_lo hx] at this
          exact this
        · cases x with
          | zero =>
            rw [hX']
            show cAt _ (n + 1) a
            obtain ⟨y1, y2, y3⟩ := ea
            refine ⟨?_, ?_, ?_⟩
            · rw [uN (by decide), uN (by decide), uA]; exact y1
            · rw [uN (by decide), uA]; exact y2
            · rw [uA]; exact y3
          | succ x =>
            rw [rd _ (by omega)]
            have := q2 x (by simp at hx; omega)
            rw [show (X' ++ [a]).length + 1 + x = X'.length + 1 + (x + 1) by simp; omega] at this
            exact this
        · rcases List.mem_cons.1 hb with w | w
          · rw [w]; exact sa
          · exact q3 b w
  rw [c1]
  exact lp l2.length l2 [] I rfl (by simp) Fr.rf c1 c2 (fun x hx => absurd hx (by simp)) (fun b hb => absurd hb List.not_mem_nil)
