/-! lowest terms -/
theorem s_lowest {sh : oS} {I : Nat → Nat → Int} {L : Nat → Nat → Int64} {Q : oQ} {a b : Nat} {part : Int} (hb : 0 < b) (ha2 : inR a) (hb2 : inR b) (hp : inR part) (k : Q (some (vI (if part = 0 then ((a / Nat.gcd a b : Nat) : Int) else ((b / Nat.gcd a b : Nat) : Int)))) (sh, I, L)) : T_X12_lowest [vI a, vI b, vI part] (sh, I, L) Q := by
  refine And.intro (Nat.le_of_ble_eq_true rfl) (fun K hK => ?_)
  have gp : 0 < Nat.gcd a b := Nat.gcd_pos_of_pos_right a hb
  have gle : Nat.gcd a b ≤ b := Nat.gcd_le_right a hb
  have lp : ∀ (q x y : Nat), y ≤ q → inR x → inR y → Nat.gcd x y = Nat.gcd a b → K 5 [some (vI a), some (vI b), some (vI part), some (vI x), some (vI y), none] [] (sh, I, L) (0, 0) := by
    intro q
    induction q with
    | zero =>
      intro x y hy hx2 hy2 hg
      have y0 : y = 0 := by omega
      subst y0
      rw [Nat.gcd_zero_right] at hg
      subst hg
      refine B_X12_lowest_5 hK (n7 := by decide) (kt := fun _ => ?_) (kf := fun z => absurd rfl z)
      refine B_X12_lowest_26 hK (n27 := hp) (kt := fun z => ?_) (kf := fun z => ?_)
      · rw [if_neg z] at k
        refine B_X12_lowest_36 hK (n38a := hb2) (n38b := hx2) (z38 := by omega) (k := B_X12_lowest_39 hK (k := ?_))
        rw [Int.tdiv_eq_ediv_of_nonneg (by omega)]
        exact k
      · rw [if_pos (Classical.not_not.1 z)] at k
        refine B_X12_lowest_30 hK (n32a := ha2) (n32b := hx2) (z32 := by omega) (k := B_X12_lowest_39 hK (k := ?_))
        rw [Int.tdiv_eq_ediv_of_nonneg (by omega)]
        exact k
    | succ q ih =>
      intro x y hy hx2 hy2 hg
      by_cases y0 : y = 0
      · exact ih x y (by omega) hx2 hy2 hg
      · refine B_X12_lowest_5 hK (n7 := hy2) (kt := fun z => absurd z (by omega)) (kf := fun _ => ?_)
        refine B_X12_lowest_10 hK (n13a := hx2) (n13b := hy2) (z13 := by omega) (k := ?_)
        have lt := Nat.mod_lt x (Nat.pos_of_ne_zero y0)
        rw [Int.tmod_eq_emod_of_nonneg (by omega)]
        have g := ih y (x % y) (by omega) hy2 (by omega) (by rw [← hg, Nat.gcd_comm x y, Nat.gcd_rec y x, Nat.gcd_comm])
        exact g
  exact B_X12_lowest_0 hK (k := lp b a b (Nat.le_refl _) ha2 hb2 rfl)
