/-! stands in their order -/
abbrev ahd (s t : stT) : Prop := s.2.1 < t.2.1 ∨ s.2.1 = t.2.1 ∧ (s.1 < t.1 ∨ s.1 = t.1 ∧ s.2.2 < t.2.2)
def nAh (s t : stT) : Prop := ¬ ahd t s
theorem nAh_tr {a b c : stT} (h1 : nAh a b) (h2 : nAh b c) : nAh a c := by
  unfold nAh ahd at *
  omega
theorem ahd_n {a b : stT} (h : ahd a b) : nAh a b := by
  unfold nAh ahd at *
  omega
theorem nAh_as {a b : stT} (h1 : nAh a b) (h2 : nAh b a) : a = b := by
  unfold nAh ahd at *
  obtain ⟨a1, a2, a3⟩ := a
  obtain ⟨b1, b2, b3⟩ := b
  simp only [Prod.mk.injEq] at *
  omega
/-- the stands of a list in their order: there is one such list -/
theorem srt_un : ∀ {l m : List stT}, l.Perm m → l.Pairwise nAh → m.Pairwise nAh → l = m
  | [], m, p, _, _ => (List.nil_perm.1 p).symm
  | a :: l, [], p, _, _ => absurd (List.perm_nil.1 p) (by simp)
  | a :: l, b :: m, p, h1, h2 => by
    have c1 := List.pairwise_cons.1 h1
    have c2 := List.pairwise_cons.1 h2
    have ha : a ∈ b :: m := p.subset (List.mem_cons_self ..)
    have hb : b ∈ a :: l := p.symm.subset (List.mem_cons_self ..)
    have e : a = b := by
      rcases List.mem_cons.1 ha with x | x
      · exact x
      · rcases List.mem_cons.1 hb with y | y
        · exact y.symm
        · exact nAh_as (c1.1 b y) (c2.1 a x)
    subst e
    rw [srt_un (List.Perm.cons_inv p) c1.2 c2.2]
theorem stOK.pm {P D : Int} {l m : List stT} (p : l.Perm m) (h : stOK P D l) : stOK P D m := fun s hs => h s (p.symm.subset hs)
theorem stG_at {A R : List stT} {x : stT} : stG (A ++ x :: R) A.length = x := by
  simp [stG]
theorem stG_sw {A R : List stT} {x y : stT} {i : Nat} (h1 : i ≠ A.length) (h2 : i ≠ A.length + 1) : stG (A ++ x :: y :: R) i = stG (A ++ y :: x :: R) i := by
  unfold stG
  by_cases h : i < A.length
  · simp [List.getElem?_append_left h]
  · obtain ⟨j, hj⟩ : ∃ j, i = A.length + (j + 2) := ⟨i - A.length - 2, by omega⟩
    subst hj
    simp [List.getElem?_append_right]
theorem s_isAhead {sh : oS} {I : Nat → Nat → Int} {L : Nat → Nat → Int64} {Q : oQ} (hs : Sh sh) {l : List stT} {P D : Int} {i j : Nat} (hl : mLs I l) (hn : l.length ≤ 40) (ho : stOK P D l) (hP : P ≤ 8) (hD : D ≤ 10) (hi : i < l.length) (hj : j < l.length) (k : ∀ r, r = (if ahd (stG l i) (stG l j) then 1 else 0) → Q (some (vI r)) (sh, I, L)) : T_X12_isAhead [vR 44, vI i, vI j] (sh, I, L) Q := by
  refine And.intro (Nat.le_of_ble_eq_true rfl) (fun K hK => ?_)
  have a1 := hl.2 i hi
  have a2 := hl.2 j hj
  have b1 := ho _ (stG_m hi)
  have b2 := ho _ (stG_m hj)
  have en : ∀ r, r = (if ahd (stG l i) (stG l j) then 1 else 0) → (r = 0 ∨ r = 1) ∧ Q (some (vI r)) (sh, I, L) := fun r hr => ⟨by rw [hr]; split <;> omega, k r hr⟩
  unfold ahd at en
  generalize stG l i = s at *
  generalize stG l j = t at *
  have y : ∀ (b : Bool), (b = true ↔ s.2.1 < t.2.1 ∨ s.2.1 = t.2.1 ∧ (s.1 < t.1 ∨ s.1 = t.1 ∧ s.2.2 < t.2.2)) → K 35 [none, none, none] [vI (if b then 1 else 0)] (sh, I, L) (0, 0) ∧ K 94 [none, none, none] [vI (if b then 1 else 0)] (sh, I, L) (0, 0) := fun b hb => by
    have := en (if b then 1 else 0) (by
      by_cases q : b = true
      · rw [if_pos q, if_pos (hb.1 q)]
      · rw [if_neg q, if_neg (fun z => q (hb.2 z))])
    exact ⟨B_X12_isAhead_35 hK (o35 := this.1) (k := this.2), B_X12_isAhead_94 hK (o94 := this.1) (k := this.2)⟩
  have e1 := a1.1
  have e2 := a1.2.1
  have e3 := a1.2.2
  have f1 := a2.1
  have f2 := a2.2.1
  have f3 := a2.2.2
  refine B_X12_isAhead_0 hK hs (b5 := by omega) (b11 := by omega) (n12a := by rw [Int.toNat_natCast, e2]; omega) (n12b := by rw [Int.toNat_natCast, f2]; omega) (kt := fun z => ?_) (kf := fun z => ?_)
  · rw [Int.toNat_natCast, Int.toNat_natCast, e2, f2] at z
    refine B_X12_isAhead_36 hK hs (b41 := by omega) (b47 := by omega) (n48a := by rw [Int.toNat_natCast, e1]; omega) (n48b := by rw [Int.toNat_natCast, f1]; omega) (kt := fun z2 => ?_) (kf := fun z2 => ?_)
    · rw [Int.toNat_natCast, Int.toNat_natCast, e1, f1] at z2
      refine B_X12_isAhead_74 hK hs (b79 := by omega) (b85 := by omega) (n86a := by rw [Int.toNat_natCast, e3]; omega) (n86b := by rw [Int.toNat_natCast, f3]; omega) (kt := fun z3 => ?_) (kf := fun z3 => ?_)
      · rw [Int.toNat_natCast, Int.toNat_natCast, e3, f3] at z3
        exact B_X12_isAhead_93 hK (k := (y false (by simp; omega)).2)
      · rw [Int.toNat_natCast, Int.toNat_natCast, e3, f3] at z3
        exact B_X12_isAhead_89 hK (k := (y true (by simp; omega)).2)
    · rw [Int.toNat_natCast, Int.toNat_natCast, e1, f1] at z2
      refine B_X12_isAhead_51 hK hs (b56 := by omega) (b62 := by omega) (n63a := by rw [Int.toNat_natCast, e1]; omega) (n63b := by rw [Int.toNat_natCast, f1]; omega) (kt := fun z3 => ?_) (kf := fun z3 => ?_)
      · rw [Int.toNat_natCast, Int.toNat_natCast, e1, f1] at z3
        exact B_X12_isAhead_70 hK (k := (y false (by simp; omega)).2)
      · rw [Int.toNat_natCast, Int.toNat_natCast, e1, f1] at z3
        exact B_X12_isAhead_66 hK (k := (y true (by simp; omega)).2)
  · rw [Int.toNat_natCast, Int.toNat_natCast, e2, f2] at z
    refine B_X12_isAhead_15 hK hs (b20 := by omega) (b26 := by omega) (n27a := by rw [Int.toNat_natCast, e2]; omega) (n27b := by rw [Int.toNat_natCast, f2]; omega) (kt := fun z3 => ?_) (kf := fun z3 => ?_)
    · rw [Int.toNat_natCast, Int.toNat_natCast, e2, f2] at z3
      exact B_X12_isAhead_34 hK (k := (y false (by simp; omega)).1)
    · rw [Int.toNat_natCast, Int.toNat_natCast, e2, f2] at z3
      exact B_X12_isAhead_30 hK (k := (y true (by simp; omega)).1)
theorem s_sortStands {sh : oS} {I : Nat → Nat → Int} {L : Nat → Nat → Int64} {Q : oQ} (hs : Sh sh) {l : List stT} {P D : Int} (hl : mLs I l) (hn : l.length ≤ 40) (ho : stOK P D l) (hP : P ≤ 8) (hD : D ≤ 10) (k : ∀ J l2, Fr [68, 69, 70] [] I J → mLs J l2 → l.Perm l2 → l2.Pairwise nAh → Q none (sh, J, L)) : T_X12_sortStands [vR 44] (sh, I, L) Q := by
  refine And.intro (Nat.le_of_ble_eq_true rfl) (fun K hK => ?_)
  have lp : ∀ (q : Nat) (A C : List stT) (J : Nat → Nat → Int), C.length = q → Fr [68, 69, 70] [] I J → mLs J (A ++ C) → l.Perm (A ++ C) → A.Pairwise nAh → K 2 [some (vR 44), some (vI A.length), none, none, none, none] [] (sh, J, L) (0, 0) := by
    intro q
    induction q with
    | zero =>
      intro A C J hC hF hJ hp hA
      have e : C = [] := List.length_eq_zero_iff.1 hC
      subst e
      rw [List.append_nil] at hJ hp
      have := hp.length_eq
      refine B_X12_sortStands_2 hK hs (n7a := by omega) (n7b := by rw [hJ.1]; omega) (kt := fun _ => ?_) (kf := fun z => absurd (by rw [hJ.1]; omega) z)
      exact B_X12_sortStands_133 hK (k := k J A hF hJ hp hA)
    | succ q ih =>
      intro A C J hC hF hJ hp hA
      obtain ⟨x, C2, rfl⟩ : ∃ x C2, C = x :: C2 := by
        cases C with
        | nil => simp at hC
        | cons x C2 => exact ⟨x, C2, rfl⟩
      have hlen := hp.length_eq
      simp at hlen hC
      have hj1 := hJ.1
      simp at hj1
      refine B_X12_sortStands_2 hK hs (n7a := by omega) (n7b := by omega) (kt := fun z => absurd z (by omega)) (kf := fun _ => ?_)
      refine B_X12_sortStands_10 hK (k := ?_)
      -- the one goes forward among those ahead of it
      have inn : ∀ (g : Nat) (A1 B : List stT) (J1 : Nat → Nat → Int), A1.length = g → A1.length + B.length = A.length → Fr [68, 69, 70] [] I J1 → mLs J1 (A1 ++ x :: (B ++ C2)) → l.Perm (A1 ++ x :: (B ++ C2)) → (A1 ++ B).Pairwise nAh → (∀ b, b ∈ B → nAh x b) → K 12 [some (vR 44), some (vI A.length), some (vI A1.length), none, none, none] [] (sh, J1, L) (0, 0) := by
        intro g
        induction g with
        | zero =>
          intro A1 B J1 hg hAB F1 m1 p1 w1 x1
          have e : A1 = [] := List.length_eq_zero_iff.1 hg
          subst e
          refine B_X12_sortStands_12 hK (n13 := by simp; decide) (kt := fun _ => ?_) (kf := fun z => absurd (by simp) z)
          refine B_X12_sortStands_127 hK (k := ?_)
          have go := ih (x :: B) C2 J1 hC F1 m1 p1 (List.pairwise_cons.2 ⟨x1, by simpa using w1⟩)
          have e2 : ((x :: B).length : Int) = (A.length : Int) + 1 := by simp at hAB ⊢; omega
          rw [e2] at go
          exact go
        | succ g ihg =>
          intro A1 B J1 hg hAB F1 m1 p1 w1 x1
          obtain ⟨A2, y, rfl⟩ : ∃ A2 y, A1 = A2 ++ [y] := ⟨A1.dropLast, A1.getLast (fun z => by rw [z] at hg; simp at hg), (List.dropLast_concat_getLast _).symm⟩
          have hg2 : A2.length = g := by simp at hg; exact hg
          have hAB2 : A2.length + 1 + B.length = A.length := by simp at hAB; omega
          have le1 : ((A2 ++ [y]).length : Int) = (A2.length : Int) + 1 := by simp
          rw [le1]
          have m2 : mLs J1 (A2 ++ y :: x :: (B ++ C2)) := by simpa using m1
          have p2 : l.Perm (A2 ++ y :: x :: (B ++ C2)) := by simpa using p1
          have ln : (A2 ++ y :: x :: (B ++ C2)).length = l.length := p2.length_eq.symm
          have ln2 : (A2 ++ y :: x :: (B ++ C2)).length = A2.length + (B.length + C2.length + 2) := by simp
          have gy : stG (A2 ++ y :: x :: (B ++ C2)) A2.length = y := stG_at
          have gx : stG (A2 ++ y :: x :: (B ++ C2)) (A2.length + 1) = x := by
            have := stG_at (A := A2 ++ [y]) (R := B ++ C2) (x := x)
            simpa using this
          refine B_X12_sortStands_12 hK (n13 := by omega) (kt := fun z => absurd z (by omega)) (kf := fun _ => ?_)
          refine B_X12_sortStands_16 hK hs (k := ?_)
          rw [show (A2.length : Int) + 1 - 1 = (A2.length : Int) by omega, show (A2.length : Int) + 1 = ((A2.length + 1 : Nat) : Int) by omega]
          refine s_isAhead hs m2 (by omega) (ho.pm p2) hP hD (by omega) (by omega) (fun r hr => ?_)
          rw [gx, gy] at hr
          by_cases z : ahd x y
          · rw [if_pos z] at hr
            refine B_X12_sortStands_24 hK (n24 := by omega) (kt := fun z => absurd z (by omega)) (kf := fun _ => ?_)
            refine B_X12_sortStands_27 hK hs (b32 := by omega) (b62 := by omega) (k := ?_)
            rw [show ((A2.length + 1 : Nat) : Int) + (-1) = (A2.length : Int) by omega, show (((A2.length + 1 : Nat) : Int) - 1).toNat = A2.length by omega, Int.toNat_natCast]
            refine ihg A2 (y :: B) _ hg2 (by simp; omega) ?_ ?_ ?_ ?_ ?_
            · exact (((((F1.u 68 _ _ (by simp)).u 69 _ _ (by simp)).u 70 _ _ (by simp)).u 68 _ _ (by simp)).u 69 _ _ (by simp)).u 70 _ _ (by simp)
            · have v1 := m2.2 A2.length (by omega)
              have v2 := m2.2 (A2.length + 1) (by omega)
              rw [gy] at v1
              rw [gx] at v2
              refine ⟨?_, fun i hi => ?_⟩
              · have := m2.1
                simp [u2]
                simp at this
                omega
              · have hi2 : i < (A2 ++ y :: x :: (B ++ C2)).length := by simp at hi ⊢; omega
                show _ = (stG (A2 ++ x :: y :: (B ++ C2)) i).1 ∧ _ = (stG (A2 ++ x :: y :: (B ++ C2)) i).2.1 ∧ _ = (stG (A2 ++ x :: y :: (B ++ C2)) i).2.2
                by_cases i1 : i = A2.length
                · subst i1
                  rw [stG_at]
                  simp [u2, v2]
                · by_cases i2 : i = A2.length + 1
                  · subst i2
                    have : stG (A2 ++ x :: y :: (B ++ C2)) (A2.length + 1) = y := by
                      have := stG_at (A := A2 ++ [x]) (R := B ++ C2) (x := y)
                      simpa using this
                    rw [this]
                    simp [u2, v1]
                  · have v3 := m2.2 i hi2
                    rw [stG_sw i1 i2]
                    simp [u2, i1, i2, v3]
            · exact p2.trans (List.Perm.append_left A2 (List.Perm.swap x y _))
            · simpa using w1
            · intro b hb
              rcases List.mem_cons.1 hb with e | e
              · rw [e]; exact ahd_n z
              · exact x1 b e
          · rw [if_neg z] at hr
            refine B_X12_sortStands_24 hK (n24 := by omega) (kt := fun _ => ?_) (kf := fun y => absurd hr y)
            refine B_X12_sortStands_127 hK (k := ?_)
            have w2 := List.pairwise_append.1 w1
            have go := ih (A2 ++ y :: x :: B) C2 J1 hC F1 (by simpa using m2) (by simpa using p2) (by
              have w3 := List.pairwise_append.1 w2.1
              have yx : nAh y x := z
              refine List.pairwise_append.2 ⟨w3.1, ?_, ?_⟩
              · refine List.pairwise_cons.2 ⟨?_, List.pairwise_cons.2 ⟨x1, w2.2.1⟩⟩
                intro b hb
                rcases List.mem_cons.1 hb with e | e
                · rw [e]; exact yx
                · exact nAh_tr yx (x1 b e)
              · intro a ha b hb
                have ay : nAh a y := w3.2.2 a ha y (by simp)
                rcases List.mem_cons.1 hb with e | e
                · rw [e]; exact ay
                · rcases List.mem_cons.1 e with e | e
                  · rw [e]; exact nAh_tr ay yx
                  · exact nAh_tr ay (nAh_tr yx (x1 b e)))
            have e2 : ((A2 ++ y :: x :: B).length : Int) = (A.length : Int) + 1 := by simp; omega
            rw [e2] at go
            exact go
      exact inn A.length A [] J rfl (by simp) hF (by simpa using hJ) (by simpa using hp) (by simpa using hA) (fun b hb => by cases hb)
  exact B_X12_sortStands_0 hK (k := lp l.length [] l I rfl Fr.rf hl (List.Perm.refl _) List.Pairwise.nil)
