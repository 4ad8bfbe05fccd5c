/-! the class: its page -/
/-- a page of so many letters, come so far -/
def pgA (J : Nat → Nat → Int) (pg : Nat → Int) (len c : Nat) : Prop := J 1 1 = (len : Int) ∧ J 1 2 = (c : Int) ∧ len ≤ 60 ∧ c ≤ len ∧ ∀ x, x < len → J 2 x = pg x ∧ 1 ≤ pg x ∧ pg x ≤ 126
def lkP (pg : Nat → Int) (len c : Nat) : Int := if c < len then pg c else 0
theorem pgA.bd {J : Nat → Nat → Int} {pg : Nat → Int} {len c : Nat} (h : pgA J pg len c) : 0 ≤ lkP pg len c ∧ lkP pg len c ≤ 126 := by
  unfold lkP
  split
  · have := (h.2.2.2.2 c (by assumption)).2
    omega
  · omega
theorem pgA.lt {J : Nat → Nat → Int} {pg : Nat → Int} {len c : Nat} (h : pgA J pg len c) (g : lkP pg len c ≠ 0) : c < len := by
  unfold lkP at g
  by_cases e : c < len
  · exact e
  · rw [if_neg e] at g
    exact absurd rfl g
theorem pgA.go {J : Nat → Nat → Int} {pg : Nat → Int} {len c : Nat} (h : pgA J pg len c) (g : c < len) : pgA (u2 J 1 2 (J 1 2 + 1)) pg len (c + 1) := by
  obtain ⟨h1, h2, h3, h4, h5⟩ := h
  exact ⟨h1, by show J 1 2 + 1 = _; omega, h3, by omega, h5⟩
theorem s_look {sh : oS} {I : Nat → Nat → Int} {L : Nat → Nat → Int64} {Q : oQ} (hs : Sh sh) {pg : Nat → Int} {len c : Nat} (h : pgA I pg len c) (k : Q (some (vI (lkP pg len c))) (sh, I, L)) : T_X8_look [vR 1] (sh, I, L) Q := by
  refine And.intro (Nat.le_of_ble_eq_true rfl) (fun K hK => ?_)
  obtain ⟨h1, h2, h3, h4, h5⟩ := h
  unfold lkP at k
  refine B_X8_look_0 hK hs (n4 := by omega) (kt := fun z => absurd z (by omega)) (kf := fun z => ?_)
  refine B_X8_look_7 hK hs (n15a := by omega) (n15b := by omega) (kt := fun z2 => ?_) (kf := fun z2 => ?_)
  · rw [if_neg (by omega)] at k
    exact B_X8_look_30 hK (k := B_X8_look_31 hK (k := k))
  · rw [if_pos (by omega)] at k
    refine B_X8_look_18 hK hs (b26 := by omega) (k := B_X8_look_31 hK (k := ?_))
    rw [h2, Int.toNat_natCast, (h5 c (by omega)).1]
    exact k
theorem s_take {sh : oS} {I : Nat → Nat → Int} {L : Nat → Nat → Int64} {Q : oQ} (hs : Sh sh) {pg : Nat → Int} {len c : Nat} {ch : Int} (h : pgA I pg len c) (hc : 1 ≤ ch ∧ ch ≤ 126)
    (k1 : lkP pg len c = ch → c < len → pgA (u2 I 1 2 (I 1 2 + 1)) pg len (c + 1) → Q (some (vI 1)) (sh, u2 I 1 2 (I 1 2 + 1), L)) (k2 : lkP pg len c ≠ ch → Q (some (vI 0)) (sh, I, L)) : T_X8_take [vR 1, vI ch] (sh, I, L) Q := by
  refine And.intro (Nat.le_of_ble_eq_true rfl) (fun K hK => ?_)
  have bd := h.bd
  refine B_X8_take_0 hK hs (k := ?_)
  refine s_look hs h ?_
  refine B_X8_take_4 hK (n5a := by omega) (n5b := by omega) (kt := fun z => ?_) (kf := fun z => ?_)
  · have g := h.lt (by omega)
    exact B_X8_take_10 hK hs (k := k1 z g (h.go g))
  · exact B_X8_take_8 hK (k := k2 z)
theorem s_digit {sh : oS} {I : Nat → Nat → Int} {L : Nat → Nat → Int64} {Q : oQ} (hs : Sh sh) {pg : Nat → Int} {len c : Nat} {lo hi : Int} (h : pgA I pg len c) (hl : 0 ≤ lo ∧ lo ≤ 9) (hh : 0 ≤ hi ∧ hi ≤ 9)
    (k1 : lo ≤ lkP pg len c - 48 → lkP pg len c - 48 ≤ hi → c < len → pgA (u2 I 1 2 (I 1 2 + 1)) pg len (c + 1) → Q (some (vI (lkP pg len c - 48))) (sh, u2 I 1 2 (I 1 2 + 1), L)) (k2 : ¬ (lo ≤ lkP pg len c - 48 ∧ lkP pg len c - 48 ≤ hi) → Q (some (vI (-1))) (sh, I, L)) : T_X8_digit [vR 1, vI lo, vI hi] (sh, I, L) Q := by
  refine And.intro (Nat.le_of_ble_eq_true rfl) (fun K hK => ?_)
  have bd := h.bd
  refine B_X8_digit_0 hK hs (k := ?_)
  refine s_look hs h ?_
  refine B_X8_digit_4 hK (n10a := by omega) (n10b := by omega) (kt := fun z => ?_) (kf := fun z => ?_)
  · exact B_X8_digit_18 hK (k := k2 (by omega))
  · refine B_X8_digit_13 hK (n15a := by omega) (n15b := by omega) (kt := fun z2 => ?_) (kf := fun z2 => ?_)
    · have g := h.lt (by omega)
      exact B_X8_digit_20 hK hs (k := k1 (by omega) z2 g (h.go g))
    · exact B_X8_digit_18 hK (k := k2 (by omega))
theorem s_atEnd {sh : oS} {I : Nat → Nat → Int} {L : Nat → Nat → Int64} {Q : oQ} (hs : Sh sh) {pg : Nat → Int} {len c : Nat} (h : pgA I pg len c) (k : ∀ r, (r = 1 ∧ c = len) ∨ (r = 0 ∧ c < len) → Q (some (vI r)) (sh, I, L)) : T_X8_atEnd [vR 1] (sh, I, L) Q := by
  refine And.intro (Nat.le_of_ble_eq_true rfl) (fun K hK => ?_)
  obtain ⟨h1, h2, h3, h4, h5⟩ := h
  refine B_X8_atEnd_0 hK hs (n8a := by omega) (n8b := by omega) (kt := fun z => ?_) (kf := fun z => ?_)
  · exact B_X8_atEnd_15 hK (k := B_X8_atEnd_16 hK (o16 := Or.inl rfl) (k := k 0 (Or.inr ⟨rfl, by omega⟩)))
  · exact B_X8_atEnd_11 hK (k := B_X8_atEnd_16 hK (o16 := Or.inr rfl) (k := k 1 (Or.inl ⟨rfl, by omega⟩)))
theorem s_put {sh : oS} {I : Nat → Nat → Int} {L : Nat → Nat → Int64} {Q : oQ} (hs : Sh sh) {v : Int} (h : 0 ≤ I 1 1 ∧ I 1 1 < 60) (k : Q none (sh, u2 (u2 I 2 (I 1 1).toNat v) 1 1 (I 1 1 + 1), L)) : T_X8_put [vR 1, vI v] (sh, I, L) Q := by
  refine And.intro (Nat.le_of_ble_eq_true rfl) (fun K hK => ?_)
  refine B_X8_put_0 hK hs (n6a := by omega) (kt := fun z => absurd z (by omega)) (kf := fun z => ?_)
  exact B_X8_put_9 hK hs (b18 := by omega) (k := B_X8_put_29 hK (k := k))
