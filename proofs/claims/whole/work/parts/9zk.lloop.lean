/-! the law's loop -/
section LAW
variable {a n : Nat} {xs : Nat → Int32} {Q : oQ} {K : oK}
theorem sw_to (z : Int) : (swT 0 [168, 221, 234, 257, 270, 283, 326, 339, 372, 395, 428, 461, 494, 537, 580, 633, 676, 719, 762, 815, 858, 911, 944, 977, 1020, 1063, 1086, 1099, 1112, 1135] 1149 z = 1149) ∨ ∃ j : Nat, j < 30 ∧ z = (j : Int) := by
  by_cases h : 0 ≤ z ∧ z < 30
  · exact Or.inr ⟨z.toNat, by omega, by omega⟩
  · refine Or.inl ?_
    unfold swT
    by_cases h0 : z < 0
    · rw [if_pos h0]
    · rw [if_neg h0, List.getD_eq_getElem?_getD, List.getElem?_eq_none (show 30 ≤ (z - 0).toNat by omega)]
      rfl
set_option maxRecDepth 4000 in
theorem l_loop (hK : oCl (tb_L a n xs) Q K) (hn : n ≤ 2560) : ∀ (d c : Nat), c + d = 513 → ∀ (sh : oS) (I : Nat → Nat → Int) (L : Nat → Nat → Int64) (ga gb : Nat), Sh sh → Rel sh I c 0 → ga ≤ 77 + 4 * c → gb ≤ 33899 + 27 * c → K 18 [some (vX a), some (vR 0), some (vR 44), some (vI (((5 * c : Nat) : Int)))] [] (sh, I, L) (ga, gb) := by
  intro d
  induction d with
  | zero =>
    intro c hc sh I L ga gb hs R g1 g2
    refine hK.1 18 [some (vX a), some (vR 0), some (vR 44), some (vI (((5 * c : Nat) : Int)))] [] (sh, I, L) (ga, gb) ?_
    refine hK.1 19 [some (vX a), some (vR 0), some (vR 44), some (vI (((5 * c : Nat) : Int)))] [vI ((5 * c : Nat) : Int)] (sh, I, L) (ga, gb) ?_
    refine hK.1 20 [some (vX a), some (vR 0), some (vR 44), some (vI (((5 * c : Nat) : Int)))] [vX a, vI ((5 * c : Nat) : Int)] (sh, I, L) (ga, gb) ?_
    refine And.intro rfl ?_
    refine hK.1 21 [some (vX a), some (vR 0), some (vR 44), some (vI (((5 * c : Nat) : Int)))] [vI (n : Int), vI ((5 * c : Nat) : Int)] (sh, I, L) (ga, gb) ?_
    refine hK.1 22 [some (vX a), some (vR 0), some (vR 44), some (vI (((5 * c : Nat) : Int)))] [vI 5, vI (n : Int), vI ((5 * c : Nat) : Int)] (sh, I, L) (ga, gb) ?_
    refine hK.1 23 [some (vX a), some (vR 0), some (vR 44), some (vI (((5 * c : Nat) : Int)))] [vI ((n : Int) - 5), vI ((5 * c : Nat) : Int)] (sh, I, L) (ga, gb) ?_
    refine And.intro ⟨⟨by omega, by omega⟩, by omega, by omega⟩ ⟨fun _ => ?_, fun h => absurd (show (n : Int) - 5 < ((5 * c : Nat) : Int) by omega) h⟩
    refine hK.1 1155 [some (vX a), some (vR 0), some (vR 44), some (vI (((5 * c : Nat) : Int)))] [] (sh, I, L) (ga, gb) ?_
    refine hK.1 1156 [some (vX a), some (vR 0), some (vR 44), some (vI (((5 * c : Nat) : Int)))] [vI 1] (sh, I, L) (ga, gb) ?_
    exact ⟨rfl, by show ga ≤ 600000; omega, by show gb ≤ 7302250; omega⟩
  | succ d ih =>
    intro c hc sh I L ga gb hs R g1 g2
    by_cases hi : 5 * c + 5 ≤ n
    · refine hK.1 18 [some (vX a), some (vR 0), some (vR 44), some (vI (((5 * c : Nat) : Int)))] [] (sh, I, L) (ga, gb) ?_
      refine hK.1 19 [some (vX a), some (vR 0), some (vR 44), some (vI (((5 * c : Nat) : Int)))] [vI ((5 * c : Nat) : Int)] (sh, I, L) (ga, gb) ?_
      refine hK.1 20 [some (vX a), some (vR 0), some (vR 44), some (vI (((5 * c : Nat) : Int)))] [vX a, vI ((5 * c : Nat) : Int)] (sh, I, L) (ga, gb) ?_
      refine And.intro rfl ?_
      refine hK.1 21 [some (vX a), some (vR 0), some (vR 44), some (vI (((5 * c : Nat) : Int)))] [vI (n : Int), vI ((5 * c : Nat) : Int)] (sh, I, L) (ga, gb) ?_
      refine hK.1 22 [some (vX a), some (vR 0), some (vR 44), some (vI (((5 * c : Nat) : Int)))] [vI 5, vI (n : Int), vI ((5 * c : Nat) : Int)] (sh, I, L) (ga, gb) ?_
      refine hK.1 23 [some (vX a), some (vR 0), some (vR 44), some (vI (((5 * c : Nat) : Int)))] [vI ((n : Int) - 5), vI ((5 * c : Nat) : Int)] (sh, I, L) (ga, gb) ?_
      refine And.intro ⟨⟨by omega, by omega⟩, by omega, by omega⟩ ⟨fun h => absurd h (show ¬ ((n : Int) - 5 < ((5 * c : Nat) : Int)) by omega), fun _ => ?_⟩
      refine hK.1 26 [some (vX a), some (vR 0), some (vR 44), some (vI (((5 * c : Nat) : Int)))] [] (sh, I, L) (ga, gb) ?_
      refine hK.1 27 [some (vX a), some (vR 0), some (vR 44), some (vI (((5 * c : Nat) : Int)))] [vX a] (sh, I, L) (ga, gb) ?_
      refine hK.1 28 [some (vX a), some (vR 0), some (vR 44), some (vI (((5 * c : Nat) : Int)))] [vI ((5 * c : Nat) : Int), vX a] (sh, I, L) (ga, gb) ?_
      refine And.intro ⟨rfl, by omega, by omega⟩ ?_
      refine hK.1 29 [some (vX a), some (vR 0), some (vR 44), some (vI (((5 * c : Nat) : Int)))] [vI (xs (((5 * c : Nat) : Int)).toNat).toInt] (sh, I, L) (ga, gb) ?_
      refine hK.1 31 [some (vX a), some (vR 0), some (vR 44), some (vI (((5 * c : Nat) : Int)))] [vI 31, vI (xs (((5 * c : Nat) : Int)).toNat).toInt] (sh, I, L) (ga, gb) ?_
      refine hK.1 32 [some (vX a), some (vR 0), some (vR 44), some (vI (((5 * c : Nat) : Int)))] [vI (fAnd (xs (((5 * c : Nat) : Int)).toNat).toInt 31)] (sh, I, L) (ga, gb) ?_
      refine And.intro (on_r _) ?_
      generalize fAnd (xs (((5 * c : Nat) : Int)).toNat).toInt 31 = z
      have kk : ∀ sh2 Z L2 ga2 gb2, ga2 ≤ ga + 4 → gb2 ≤ gb + 27 → Sh sh2 → Rel sh2 Z (c + 1) 0 → K 1149 [some (vX a), some (vR 0), some (vR 44), some (vI (((5 * c : Nat) : Int)))] [] (sh2, Z, L2) (ga2, gb2) := fun sh2 Z L2 ga2 gb2 q1 q2 hs2 R2 => by
        refine hK.1 1149 [some (vX a), some (vR 0), some (vR 44), some (vI (((5 * c : Nat) : Int)))] [] (sh2, Z, L2) (ga2, gb2) ?_
        refine hK.1 1152 [some (vX a), some (vR 0), some (vR 44), some (vI (((5 * c : Nat) : Int) + 5))] [] (sh2, Z, L2) (ga2, gb2) ?_
        have := ih (c + 1) (by omega) sh2 Z L2 ga2 gb2 hs2 R2 (by omega) (by omega)
        rw [show ((5 * (c + 1) : Nat) : Int) = ((5 * c : Nat) : Int) + 5 by omega] at this
        exact this
      rcases sw_to z with h | ⟨j, hj, rfl⟩
      · show K (swT 0 [168, 221, 234, 257, 270, 283, 326, 339, 372, 395, 428, 461, 494, 537, 580, 633, 676, 719, 762, 815, 858, 911, 944, 977, 1020, 1063, 1086, 1099, 1112, 1135] 1149 z) [some (vX a), some (vR 0), some (vR 44), some (vI (((5 * c : Nat) : Int)))] [] (sh, I, L) (ga, gb)
        rw [h]
        exact kk sh I L ga gb (by omega) (by omega) hs R.u1
      · match j, hj with
        | 0, _ => exact lc_0 hK hs R (by omega) hi (by omega) (by omega) kk
        | 1, _ => exact lc_1 hK hs R (by omega) hi (by omega) (by omega) kk
        | 2, _ => exact lc_2 hK hs R (by omega) hi (by omega) (by omega) kk
        | 3, _ => exact lc_3 hK hs R (by omega) hi (by omega) (by omega) kk
        | 4, _ => exact lc_4 hK hs R (by omega) hi (by omega) (by omega) kk
        | 5, _ => exact lc_5 hK hs R (by omega) hi (by omega) (by omega) kk
        | 6, _ => exact lc_6 hK hs R (by omega) hi (by omega) (by omega) kk
        | 7, _ => exact lc_7 hK hs R (by omega) hi (by omega) (by omega) kk
        | 8, _ => exact lc_8 hK hs R (by omega) hi (by omega) (by omega) kk
        | 9, _ => exact lc_9 hK hs R (by omega) hi (by omega) (by omega) kk
        | 10, _ => exact lc_10 hK hs R (by omega) hi (by omega) (by omega) kk
        | 11, _ => exact lc_11 hK hs R (by omega) hi (by omega) (by omega) kk
        | 12, _ => exact lc_12 hK hs R (by omega) hi (by omega) (by omega) kk
        | 13, _ => exact lc_13 hK hs R (by omega) hi (by omega) (by omega) kk
        | 14, _ => exact lc_14 hK hs R (by omega) hi (by omega) (by omega) kk
        | 15, _ => exact lc_15 hK hs R (by omega) hi (by omega) (by omega) kk
        | 16, _ => exact lc_16 hK hs R (by omega) hi (by omega) (by omega) kk
        | 17, _ => exact lc_17 hK hs R (by omega) hi (by omega) (by omega) kk
        | 18, _ => exact lc_18 hK hs R (by omega) hi (by omega) (by omega) kk
        | 19, _ => exact lc_19 hK hs R (by omega) hi (by omega) (by omega) kk
        | 20, _ => exact lc_20 hK hs R (by omega) hi (by omega) (by omega) kk
        | 21, _ => exact lc_21 hK hs R (by omega) hi (by omega) (by omega) kk
        | 22, _ => exact lc_22 hK hs R (by omega) hi (by omega) (by omega) kk
        | 23, _ => exact lc_23 hK hs R (by omega) hi (by omega) (by omega) kk
        | 24, _ => exact lc_24 hK hs R (by omega) hi (by omega) (by omega) kk
        | 25, _ => exact lc_25 hK hs R (by omega) hi (by omega) (by omega) kk
        | 26, _ => exact lc_26 hK hs R (by omega) hi (by omega) (by omega) kk
        | 27, _ => exact lc_27 hK hs R (by omega) hi (by omega) (by omega) kk
        | 28, _ => exact lc_28 hK hs R (by omega) hi (by omega) (by omega) kk
        | 29, _ => exact lc_29 hK hs R (by omega) hi (by omega) (by omega) kk
        | j + 30, h => exact absurd h (by omega)
    · refine hK.1 18 [some (vX a), some (vR 0), some (vR 44), some (vI (((5 * c : Nat) : Int)))] [] (sh, I, L) (ga, gb) ?_
      refine hK.1 19 [some (vX a), some (vR 0), some (vR 44), some (vI (((5 * c : Nat) : Int)))] [vI ((5 * c : Nat) : Int)] (sh, I, L) (ga, gb) ?_
      refine hK.1 20 [some (vX a), some (vR 0), some (vR 44), some (vI (((5 * c : Nat) : Int)))] [vX a, vI ((5 * c : Nat) : Int)] (sh, I, L) (ga, gb) ?_
      refine And.intro rfl ?_
      refine hK.1 21 [some (vX a), some (vR 0), some (vR 44), some (vI (((5 * c : Nat) : Int)))] [vI (n : Int), vI ((5 * c : Nat) : Int)] (sh, I, L) (ga, gb) ?_
      refine hK.1 22 [some (vX a), some (vR 0), some (vR 44), some (vI (((5 * c : Nat) : Int)))] [vI 5, vI (n : Int), vI ((5 * c : Nat) : Int)] (sh, I, L) (ga, gb) ?_
      refine hK.1 23 [some (vX a), some (vR 0), some (vR 44), some (vI (((5 * c : Nat) : Int)))] [vI ((n : Int) - 5), vI ((5 * c : Nat) : Int)] (sh, I, L) (ga, gb) ?_
      refine And.intro ⟨⟨by omega, by omega⟩, by omega, by omega⟩ ⟨fun _ => ?_, fun h => absurd (show (n : Int) - 5 < ((5 * c : Nat) : Int) by omega) h⟩
      refine hK.1 1155 [some (vX a), some (vR 0), some (vR 44), some (vI (((5 * c : Nat) : Int)))] [] (sh, I, L) (ga, gb) ?_
      refine hK.1 1156 [some (vX a), some (vR 0), some (vR 44), some (vI (((5 * c : Nat) : Int)))] [vI 1] (sh, I, L) (ga, gb) ?_
      exact ⟨rfl, by show ga ≤ 600000; omega, by show gb ≤ 7302250; omega⟩
/-- nothing yet -/
def mm0 : oM := ((0, fun _ => 99, fun _ => 0, fun _ _ => none), fun _ _ => 0, fun _ _ => 0)
set_option maxRecDepth 4000 in
theorem l_start (hK : oCl (tb_L a n xs) Q K) (hn : n ≤ 2560) : K 0 [some (vX a), none, none, none] [] mm0 (0, 0) := by
  refine hK.1 0 [some (vX a), none, none, none] [] mm0 (0, 0) ?_
  refine And.intro ⟨Nat.le_of_ble_eq_true rfl, Nat.le_of_ble_eq_true rfl⟩ ?_
  have p0 : pS (sNew mm0.1 11 0) 1 [] := ⟨rfl, fun h hh => by rw [show h = 0 by omega]; exact ⟨rfl, rfl⟩, fun q hq => absurd hq List.not_mem_nil⟩
  have z0 : zr (iNew mm0.1 mm0.2.1) 1 := fun x k _ => by show (if x = 0 then (0 : Int) else 0) = 0; split <;> rfl
  generalize hS : sNew mm0.1 11 0 = S0 at p0 ⊢
  generalize iNew mm0.1 mm0.2.1 = I0 at z0 ⊢
  generalize lNew mm0.1 mm0.2.2 = L0
  refine hK.1 3 [some (vX a), none, none, none] [vR 0] (S0, I0, L0) (1, 18) ?_
  refine hK.1 4 [some (vX a), none, none, none] [vR 0, vR 0] (S0, I0, L0) (1, 18) ?_
  refine And.intro ⟨Nat.le_of_ble_eq_true rfl, Nat.le_of_ble_eq_true rfl, Nat.le_of_ble_eq_true rfl, Nat.le_of_ble_eq_true rfl⟩ ?_
  refine c_make p0 z0 (fun S J L p1 z1 f1 f2 => ?_)
  refine hK.1 7 [some (vX a), none, none, none] [vR 0] (S, J, L) (44, 12601) ?_
  refine hK.1 8 [some (vX a), some (vR 0), none, none] [] (S, J, L) (44, 12601) ?_
  refine And.intro ⟨Nat.le_of_ble_eq_true rfl, Nat.le_of_ble_eq_true rfl⟩ ?_
  have en : sN S = 44 := p1.1
  rw [en]
  have p2 := p1.new (kd := 12) (ln := 0) (by decide) (by decide)
  have z2 : ∀ x y, x < 45 → iNew S J x y = if x = 44 then 0 else J x y := fun x y _ => by
    have e1 : S.1 = 44 := p1.1
    show (if x = S.1 then 0 else J x y) = _
    rw [e1]
  generalize sNew S 12 0 = S2 at p2 ⊢
  generalize iNew S J = J2 at z2 ⊢
  generalize lNew S L = L2
  refine hK.1 11 [some (vX a), some (vR 0), none, none] [vR 44] (S2, J2, L2) (45, 12661) ?_
  refine hK.1 12 [some (vX a), some (vR 0), none, none] [vR 44, vR 44] (S2, J2, L2) (45, 12661) ?_
  refine And.intro ⟨Nat.le_of_ble_eq_true rfl, Nat.le_of_ble_eq_true rfl, Nat.le_of_ble_eq_true rfl, Nat.le_of_ble_eq_true rfl⟩ ?_
  refine m_make p2 (fun S3 J3 L3 p3 y1 y2 => ?_)
  refine hK.1 15 [some (vX a), some (vR 0), none, none] [vR 44] (S3, J3, L3) (77, 33899) ?_
  refine hK.1 16 [some (vX a), some (vR 0), some (vR 44), none] [] (S3, J3, L3) (77, 33899) ?_
  refine hK.1 17 [some (vX a), some (vR 0), some (vR 44), none] [vI 0] (S3, J3, L3) (77, 33899) ?_
  refine l_loop hK hn 513 0 (by omega) S3 J3 L3 77 33899 (start_sh p3) (start_rel p3 (fun x y h1 h2 => ?_) (fun x hx => ?_) (fun x hx => ?_)) (by omega) (by omega)
  · by_cases h : x < 45
    · rw [y1 x y h, z2 x y h]
      split
      · rfl
      · exact z1 x y (by omega) h2
    · exact y2 x y (by omega) h1
  · rw [y1 41 x (by decide), z2 41 x (by decide), if_neg (by decide), y1 42 x (by decide), z2 42 x (by decide), if_neg (by decide)]
    exact f1 x hx
  · rw [y1 43 x (by decide), z2 43 x (by decide), if_neg (by decide)]
    exact f2 x hx
end LAW
