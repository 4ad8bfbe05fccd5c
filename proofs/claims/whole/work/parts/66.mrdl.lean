/-! readers: machines over letters -/
def up (f : Nat → Int) (i : Nat) (v : Int) : Nat → Int := fun x => if x = i then v else f x
theorem up_up {f : Nat → Int} {i : Nat} {a b : Int} : up (up f i a) i b = up f i b := by
  funext x
  unfold up
  split <;> rfl
theorem up_at {f : Nat → Int} {i : Nat} {a : Int} : up f i a i = a := by
  unfold up
  rw [if_pos rfl]
theorem up_ne {f : Nat → Int} {i x : Nat} {a : Int} (h : x ≠ i) : up f i a x = f x := by
  unfold up
  rw [if_neg h]
theorem u2_row {J : Nat → Nat → Int} {h i : Nat} {v : Int} : u2 J h i v h = up (J h) i v := by
  funext x
  unfold u2 up
  rw [if_pos rfl]
theorem u2_oth {J : Nat → Nat → Int} {h i g : Nat} {v : Int} (n : g ≠ h) : u2 J h i v g = J g := by
  funext x
  unfold u2
  rw [if_neg n]
/-- the state of a machine behind k letters -/
def rdAt {S : Type} (step : S → Int → Option S) (s0 : S) (pg : Nat → Int) : Nat → Option S
  | 0 => some s0
  | k + 1 => (rdAt step s0 pg k).bind (fun s => step s (pg k))
def rdEnd {S : Type} (step : S → Int → Option S) (s0 : S) (pg : Nat → Int) (len k : Nat) (s : S) : Prop := k ≤ len ∧ rdAt step s0 pg k = some s ∧ (k = len ∨ step s (pg k) = none)
theorem rdAt_st {S : Type} {step : S → Int → Option S} {s0 : S} {pg : Nat → Int} {k : Nat} {s : S} (h : rdAt step s0 pg k = some s) : rdAt step s0 pg (k + 1) = step s (pg k) := by
  show (rdAt step s0 pg k).bind _ = _
  rw [h]
  rfl
theorem rdAt_no {S : Type} {step : S → Int → Option S} {s0 : S} {pg : Nat → Int} {k : Nat} (h : rdAt step s0 pg k = none) : ∀ j, rdAt step s0 pg (k + j) = none
  | 0 => h
  | j + 1 => by
    show (rdAt step s0 pg (k + j)).bind _ = _
    rw [rdAt_no h j]
    rfl
theorem rdEnd_un {S : Type} {step : S → Int → Option S} {s0 : S} {pg : Nat → Int} {len k j : Nat} {s t : S} (a : rdEnd step s0 pg len k s) (b : rdEnd step s0 pg len j t) : k = j ∧ s = t := by
  have key : ∀ {k j : Nat} {s t : S}, rdEnd step s0 pg len k s → rdEnd step s0 pg len j t → ¬ k < j := by
    intro k j s t a b h
    rcases a.2.2 with e | e
    · have := b.1
      omega
    · have n1 : rdAt step s0 pg (k + 1) = none := by rw [rdAt_st a.2.1, e]
      have n2 := rdAt_no n1 (j - (k + 1))
      rw [show k + 1 + (j - (k + 1)) = j by omega, b.2.1] at n2
      exact absurd n2 (by simp)
  have e : k = j := by
    have h1 := key a b
    have h2 := key b a
    omega
  subst e
  have := a.2.1.symm.trans b.2.1
  exact ⟨rfl, Option.some.inj this⟩
abbrev isDg (c : Int) : Prop := 48 ≤ c ∧ c ≤ 57
theorem s_isDigit2 {sh : oS} {I : Nat → Nat → Int} {L : Nat → Nat → Int64} {Q : oQ} {v : Int} (hv : inR v) (k : ∀ r, (r = 1 ∧ isDg v) ∨ (r = 0 ∧ ¬ isDg v) → Q (some (vI r)) (sh, I, L)) : T_X12_isDigit [vI v] (sh, I, L) Q := s_isDigit hv (fun r hr => k r (or_ite r _ hr))
/-! a land: state, places, flour, wood, the four numbers -/
abbrev laS : Type := Int × Int × (Nat → Int) × (Nat → Int) × (Nat → Int)
def laPl (st many : Int) (F W Ld : Nat → Int) (c : Int) : Option laS :=
  if isDg c ∧ st < 3 then
    (if st = 0 then some (1, many + 1, up F many.toNat (c - 48), up W many.toNat 0, Ld)
    else some (st + 1, many, up F (many - 1).toNat (10 * F (many - 1).toNat + c - 48), W, Ld))
  else if st = 0 then none
  else if c = 119 ∧ st < 4 then some (4, many, F, up W (many - 1).toNat 1, Ld)
  else if c = 44 then (if many < 8 then some (0, many, F, W, Ld) else none)
  else if c = 59 ∧ 1 < many then some (5, many, F, W, Ld) else none
def laNu (st many : Int) (F W Ld : Nat → Int) (c : Int) : Option laS :=
  if st = 5 then (if c = 98 then some (6, many, F, W, Ld) else none)
  else if st = 6 then (if isDg c ∧ 48 < c then some (7, many, F, W, up Ld 0 (c - 48)) else none)
  else if st = 7 then (if isDg c then some (8, many, F, W, up Ld 0 (10 * Ld 0 + c - 48)) else if c = 100 then some (9, many, F, W, Ld) else none)
  else if st = 8 then (if c = 100 then some (9, many, F, W, Ld) else none)
  else if st = 9 then (if isDg c then some (10, many, F, W, up Ld 1 (c - 48)) else none)
  else if st = 10 then (if c = 107 then some (11, many, F, W, Ld) else none)
  else if st = 11 then (if isDg c ∧ 48 < c then some (12, many, F, W, up Ld 2 (c - 48)) else none)
  else if st = 12 then (if c = 114 then some (13, many, F, W, Ld) else none)
  else if st = 16 then none
  else (if isDg c then some (st + 1, many, F, W, up Ld 3 (10 * Ld 3 + c - 48)) else none)
def laStep (s : laS) (c : Int) : Option laS := if s.1 < 5 then laPl s.1 s.2.1 s.2.2.1 s.2.2.2.1 s.2.2.2.2 c else laNu s.1 s.2.1 s.2.2.1 s.2.2.2.1 s.2.2.2.2 c
def laR (s : laS) (J : Nat → Nat → Int) : Prop := J 44 27 = s.2.1 ∧ J 58 = s.2.2.1 ∧ J 59 = s.2.2.2.1 ∧ J 60 = s.2.2.2.2
def laOut (x : Option laS) (r : Int) (J : Nat → Nat → Int) : Prop := match x with
  | none => r = -1 ∧ inR (J 44 27)
  | some s => r = s.1 ∧ laR s J
abbrev FrL (I J : Nat → Nat → Int) : Prop := Fr [58, 59, 60] [(44, 27)] I J
theorem s_nextPlace {sh : oS} {I : Nat → Nat → Int} {L : Nat → Nat → Int64} {Q : oQ} (hs : Sh sh) {st c : Int} (hst : 0 ≤ st ∧ st < 5) (hc : 0 ≤ c ∧ c ≤ 127) (hm : (0 ≤ I 44 27 ∧ I 44 27 ≤ 8) ∧ (st = 0 → I 44 27 ≤ 7) ∧ (st ≠ 0 → 1 ≤ I 44 27)) (k : ∀ r J, FrL I J → laOut (laPl st (I 44 27) (I 58) (I 59) (I 60) c) r J → Q (some (vI r)) (sh, J, L)) : T_X12_nextPlace [vR 44, vI st, vI c] (sh, I, L) Q := by
  have hI : inR (I 44 27) := by omega
  refine And.intro (Nat.le_of_ble_eq_true rfl) (fun K hK => ?_)
  refine B_X12_nextPlace_0 hK (k := ?_)
  refine s_isDigit2 (by omega) (fun r hr => ?_)
  refine B_X12_nextPlace_4 hK (n4 := by omega) (kt := fun h4 => ?_) (kf := fun h4 => ?_)
  · refine B_X12_nextPlace_80 hK (n81 := by omega) (kt := fun h80 => ?_) (kf := fun h80 => ?_)
    · refine B_X12_nextPlace_86 hK (n89a := by omega) (kt := fun h86 => ?_) (kf := fun h86 => ?_)
      · refine B_X12_nextPlace_111 hK (n114a := by omega) (kt := fun h111 => ?_) (kf := fun h111 => ?_)
        · refine B_X12_nextPlace_132 hK (n135a := by omega) (kt := fun h132 => ?_) (kf := fun h132 => ?_)
          · refine B_X12_nextPlace_150 hK (k := ?_)
            refine B_X12_nextPlace_151 hK (k := ?_)
            refine k _ _ Fr.rf ?_
            unfold laPl
            (repeat' split) <;> first | omega | exact ⟨rfl, rfl, rfl, rfl, rfl⟩ | exact ⟨rfl, hI⟩
          · refine B_X12_nextPlace_138 hK hs (n143a := by omega) (kt := fun h138 => ?_) (kf := fun h138 => ?_)
            · refine B_X12_nextPlace_150 hK (k := ?_)
              refine B_X12_nextPlace_151 hK (k := ?_)
              refine k _ _ Fr.rf ?_
              unfold laPl
              (repeat' split) <;> first | omega | exact ⟨rfl, rfl, rfl, rfl, rfl⟩ | exact ⟨rfl, hI⟩
            · refine B_X12_nextPlace_146 hK (k := ?_)
              refine B_X12_nextPlace_151 hK (k := ?_)
              refine k _ _ Fr.rf ?_
              unfold laPl
              (repeat' split) <;> first | omega | exact ⟨rfl, rfl, rfl, rfl, rfl⟩ | exact ⟨rfl, hI⟩
        · refine B_X12_nextPlace_117 hK hs (n123a := by omega) (kt := fun h117 => ?_) (kf := fun h117 => ?_)
          · refine B_X12_nextPlace_130 hK (k := ?_)
            refine B_X12_nextPlace_131 hK (k := ?_)
            refine k _ _ Fr.rf ?_
            unfold laPl
            (repeat' split) <;> first | omega | exact ⟨rfl, rfl, rfl, rfl, rfl⟩ | exact ⟨rfl, hI⟩
          · refine B_X12_nextPlace_126 hK (k := ?_)
            refine B_X12_nextPlace_131 hK (k := ?_)
            refine k _ _ Fr.rf ?_
            unfold laPl
            (repeat' split) <;> first | omega | exact ⟨rfl, rfl, rfl, rfl, rfl⟩ | exact ⟨rfl, hI⟩
      · refine B_X12_nextPlace_92 hK (n94a := by omega) (kt := fun h92 => ?_) (kf := fun h92 => ?_)
        · refine B_X12_nextPlace_111 hK (n114a := by omega) (kt := fun h111 => ?_) (kf := fun h111 => ?_)
          · refine B_X12_nextPlace_132 hK (n135a := by omega) (kt := fun h132 => ?_) (kf := fun h132 => ?_)
            · refine B_X12_nextPlace_150 hK (k := ?_)
              refine B_X12_nextPlace_151 hK (k := ?_)
              refine k _ _ Fr.rf ?_
              unfold laPl
              (repeat' split) <;> first | omega | exact ⟨rfl, rfl, rfl, rfl, rfl⟩ | exact ⟨rfl, hI⟩
            · refine B_X12_nextPlace_138 hK hs (n143a := by omega) (kt := fun h138 => ?_) (kf := fun h138 => ?_)
              · refine B_X12_nextPlace_150 hK (k := ?_)
                refine B_X12_nextPlace_151 hK (k := ?_)
                refine k _ _ Fr.rf ?_
                unfold laPl
                (repeat' split) <;> first | omega | exact ⟨rfl, rfl, rfl, rfl, rfl⟩ | exact ⟨rfl, hI⟩
              · refine B_X12_nextPlace_146 hK (k := ?_)
                refine B_X12_nextPlace_151 hK (k := ?_)
                refine k _ _ Fr.rf ?_
                unfold laPl
                (repeat' split) <;> first | omega | exact ⟨rfl, rfl, rfl, rfl, rfl⟩ | exact ⟨rfl, hI⟩
          · refine B_X12_nextPlace_117 hK hs (n123a := by omega) (kt := fun h117 => ?_) (kf := fun h117 => ?_)
            · refine B_X12_nextPlace_130 hK (k := ?_)
              refine B_X12_nextPlace_131 hK (k := ?_)
              refine k _ _ Fr.rf ?_
              unfold laPl
              (repeat' split) <;> first | omega | exact ⟨rfl, rfl, rfl, rfl, rfl⟩ | exact ⟨rfl, hI⟩
            · refine B_X12_nextPlace_126 hK (k := ?_)
              refine B_X12_nextPlace_131 hK (k := ?_)
              refine k _ _ Fr.rf ?_
              unfold laPl
              (repeat' split) <;> first | omega | exact ⟨rfl, rfl, rfl, rfl, rfl⟩ | exact ⟨rfl, hI⟩
        · refine B_X12_nextPlace_97 hK hs (b108 := by omega) (k := ?_)
          refine k _ _ (Fr.rf.u 59 _ _ (by simp)) ?_
          unfold laPl
          (repeat' split) <;> first | omega | exact ⟨rfl, rfl, rfl, u2_row, rfl⟩
    · refine B_X12_nextPlace_84 hK (k := ?_)
      refine k _ _ Fr.rf ?_
      unfold laPl
      (repeat' split) <;> first | omega | exact ⟨rfl, rfl, rfl, rfl, rfl⟩ | exact ⟨rfl, hI⟩
  · refine B_X12_nextPlace_7 hK (n9a := by omega) (kt := fun h7 => ?_) (kf := fun h7 => ?_)
    · refine B_X12_nextPlace_80 hK (n81 := by omega) (kt := fun h80 => ?_) (kf := fun h80 => ?_)
      · refine B_X12_nextPlace_86 hK (n89a := by omega) (kt := fun h86 => ?_) (kf := fun h86 => ?_)
        · refine B_X12_nextPlace_111 hK (n114a := by omega) (kt := fun h111 => ?_) (kf := fun h111 => ?_)
          · refine B_X12_nextPlace_132 hK (n135a := by omega) (kt := fun h132 => ?_) (kf := fun h132 => ?_)
            · refine B_X12_nextPlace_150 hK (k := ?_)
              refine B_X12_nextPlace_151 hK (k := ?_)
              refine k _ _ Fr.rf ?_
              unfold laPl
              (repeat' split) <;> first | omega | exact ⟨rfl, rfl, rfl, rfl, rfl⟩ | exact ⟨rfl, hI⟩
            · refine B_X12_nextPlace_138 hK hs (n143a := by omega) (kt := fun h138 => ?_) (kf := fun h138 => ?_)
              · refine B_X12_nextPlace_150 hK (k := ?_)
                refine B_X12_nextPlace_151 hK (k := ?_)
                refine k _ _ Fr.rf ?_
                unfold laPl
                (repeat' split) <;> first | omega | exact ⟨rfl, rfl, rfl, rfl, rfl⟩ | exact ⟨rfl, hI⟩
              · refine B_X12_nextPlace_146 hK (k := ?_)
                refine B_X12_nextPlace_151 hK (k := ?_)
                refine k _ _ Fr.rf ?_
                unfold laPl
                (repeat' split) <;> first | omega | exact ⟨rfl, rfl, rfl, rfl, rfl⟩ | exact ⟨rfl, hI⟩
          · refine B_X12_nextPlace_117 hK hs (n123a := by omega) (kt := fun h117 => ?_) (kf := fun h117 => ?_)
            · refine B_X12_nextPlace_130 hK (k := ?_)
              refine B_X12_nextPlace_131 hK (k := ?_)
              refine k _ _ Fr.rf ?_
              unfold laPl
              (repeat' split) <;> first | omega | exact ⟨rfl, rfl, rfl, rfl, rfl⟩ | exact ⟨rfl, hI⟩
            · refine B_X12_nextPlace_126 hK (k := ?_)
              refine B_X12_nextPlace_131 hK (k := ?_)
              refine k _ _ Fr.rf ?_
              unfold laPl
              (repeat' split) <;> first | omega | exact ⟨rfl, rfl, rfl, rfl, rfl⟩ | exact ⟨rfl, hI⟩
        · refine B_X12_nextPlace_92 hK (n94a := by omega) (kt := fun h92 => ?_) (kf := fun h92 => ?_)
          · refine B_X12_nextPlace_111 hK (n114a := by omega) (kt := fun h111 => ?_) (kf := fun h111 => ?_)
            · refine B_X12_nextPlace_132 hK (n135a := by omega) (kt := fun h132 => ?_) (kf := fun h132 => ?_)
              · refine B_X12_nextPlace_150 hK (k := ?_)
                refine B_X12_nextPlace_151 hK (k := ?_)
                refine k _ _ Fr.rf ?_
                unfold laPl
                (repeat' split) <;> first | omega | exact ⟨rfl, rfl, rfl, rfl, rfl⟩ | exact ⟨rfl, hI⟩
              · refine B_X12_nextPlace_138 hK hs (n143a := by omega) (kt := fun h138 => ?_) (kf := fun h138 => ?_)
                · refine B_X12_nextPlace_150 hK (k := ?_)
                  refine B_X12_nextPlace_151 hK (k := ?_)
                  refine k _ _ Fr.rf ?_
                  unfold laPl
                  (repeat' split) <;> first | omega | exact ⟨rfl, rfl, rfl, rfl, rfl⟩ | exact ⟨rfl, hI⟩
                · refine B_X12_nextPlace_146 hK (k := ?_)
                  refine B_X12_nextPlace_151 hK (k := ?_)
                  refine k _ _ Fr.rf ?_
                  unfold laPl
                  (repeat' split) <;> first | omega | exact ⟨rfl, rfl, rfl, rfl, rfl⟩ | exact ⟨rfl, hI⟩
            · refine B_X12_nextPlace_117 hK hs (n123a := by omega) (kt := fun h117 => ?_) (kf := fun h117 => ?_)
              · refine B_X12_nextPlace_130 hK (k := ?_)
                refine B_X12_nextPlace_131 hK (k := ?_)
                refine k _ _ Fr.rf ?_
                unfold laPl
                (repeat' split) <;> first | omega | exact ⟨rfl, rfl, rfl, rfl, rfl⟩ | exact ⟨rfl, hI⟩
              · refine B_X12_nextPlace_126 hK (k := ?_)
                refine B_X12_nextPlace_131 hK (k := ?_)
                refine k _ _ Fr.rf ?_
                unfold laPl
                (repeat' split) <;> first | omega | exact ⟨rfl, rfl, rfl, rfl, rfl⟩ | exact ⟨rfl, hI⟩
          · refine B_X12_nextPlace_97 hK hs (b108 := by omega) (k := ?_)
            refine k _ _ (Fr.rf.u 59 _ _ (by simp)) ?_
            unfold laPl
            (repeat' split) <;> first | omega | exact ⟨rfl, rfl, rfl, u2_row, rfl⟩
      · refine B_X12_nextPlace_84 hK (k := ?_)
        refine k _ _ Fr.rf ?_
        unfold laPl
        (repeat' split) <;> first | omega | exact ⟨rfl, rfl, rfl, rfl, rfl⟩ | exact ⟨rfl, hI⟩
    · refine B_X12_nextPlace_12 hK (n13 := by omega) (kt := fun h12 => ?_) (kf := fun h12 => ?_)
      · refine B_X12_nextPlace_46 hK hs (b68 := by first | omega | (simp only [u2]; simp; omega)) (k := ?_)
        refine k _ _ (Fr.rf.u 58 _ _ (by simp)) ?_
        unfold laPl
        (repeat' split) <;> first | omega | exact ⟨rfl, rfl, u2_row, rfl, rfl⟩
      · refine B_X12_nextPlace_16 hK hs (b25 := by omega) (k := ?_)
        refine B_X12_nextPlace_46 hK hs (b68 := by first | omega | (simp only [u2]; simp; omega)) (k := ?_)
        refine k _ _ (((((Fr.rf.u 58 _ _ (by simp)).u 59 _ _ (by simp)).u 44 27 _ (by simp)).u 58 _ _ (by simp))) ?_
        unfold laPl
        (repeat' split) <;> first | omega | skip
        refine ⟨by omega, rfl, ?_, ?_, rfl⟩
        · rw [u2_row, u2_oth (by decide), u2_oth (by decide), u2_row]
          show up (up (I 58) (I 44 27).toNat 0) (I 44 27 + 1 - 1).toNat _ = up (I 58) (I 44 27).toNat (c - 48)
          rw [show I 44 27 + 1 - 1 = I 44 27 by omega]
          have e : up (I 58) (I 44 27).toNat 0 (u2 (u2 (u2 I 58 (I 44 27).toNat 0) 59 (I 44 27).toNat 0) 44 27 (I 44 27 + 1) 44 27 - 1).toNat = 0 := by
            show up (I 58) (I 44 27).toNat 0 (I 44 27 + 1 - 1).toNat = 0
            rw [show I 44 27 + 1 - 1 = I 44 27 by omega, up_at]
          rw [e, up_up]
          congr 1
          omega
        · rw [u2_oth (by decide), u2_oth (by decide), u2_row, u2_oth (by decide)]
