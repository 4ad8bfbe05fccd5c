/-! the class: marches -/
def MA (sh : oS) (h : Nat) : Prop := MarchAt sh h (h + 1) (h + 2) (h + 3) ∧ (h = 11 ∨ h = 15 ∨ 77 ≤ h)
theorem s_addDays {sh : oS} {I : Nat → Nat → Int} {L : Nat → Nat → Int64} {Q : oQ} {h D n : Nat} {step now : Int} (A : MA sh h) (hD : I h 0 = (D : Int)) (hn : D + n ≤ 10)
    (k : ∀ J, Fr [h + 1, h + 2] [(h, 0)] I J → J h 0 = ((D + n : Nat) : Int) → J (h + 1) = fil (I (h + 1)) D n now → J (h + 2) = fil (I (h + 2)) D n step → Q none (sh, J, L)) : T_X6_addDays [vR h, vI step, vI (n : Int), vI now] (sh, I, L) Q := by
  refine And.intro (Nat.le_of_ble_eq_true rfl) (fun K hK => ?_)
  have M := A.1
  refine B_X6_addDays_0 hK (k := ?_)
  have lp : ∀ (d i : Nat) (J : Nat → Nat → Int), i + d = n → Fr [h + 1, h + 2] [(h, 0)] I J → J h 0 = ((D + i : Nat) : Int) → J (h + 1) = fil (I (h + 1)) D i now → J (h + 2) = fil (I (h + 2)) D i step → K 3 [some (vR h), some (vI step), some (vI (n : Int)), some (vI now), some (vI (i : Int))] [] (sh, J, L) (0, 0) := by
    intro d
    induction d with
    | zero =>
      intro i J hi F e0 e1 e2
      refine B_X6_addDays_3 hK (n6a := by omega) (n6b := by omega) (kt := fun _ => ?_) (kf := fun z => absurd (by omega) z)
      have : i = n := by omega
      subst this
      exact B_X6_addDays_54 hK (k := k J F e0 e1 e2)
    | succ d ih =>
      intro i J hi F e0 e1 e2
      refine B_X6_addDays_3 hK (n6a := by omega) (n6b := by omega) (kt := fun z => absurd z (by omega)) (kf := fun _ => ?_)
      refine B_X6_addDays_9 hK (Ah0 := M) (n15a := by omega) (kt := fun z => absurd z (by omega)) (kf := fun _ => ?_)
      have q1 : u2 J (h + 2) ((J h 0).toNat) step h 0 = J h 0 := uN (by omega)
      have q2 : u2 (u2 J (h + 2) ((J h 0).toNat) step) (h + 1) ((J h 0).toNat) now h 0 = J h 0 := by rw [uN (by omega), q1]
      refine B_X6_addDays_18 hK (Ah0 := M) (b27 := by omega) (b37 := by rw [q1]; omega) (k := ?_)
      rw [q1, q2]
      have e : (J h 0).toNat = D + i := by omega
      rw [e]
      refine ih (i + 1) _ (by omega) (((F.u (h + 2) _ _ (by simp)).u (h + 1) _ _ (by simp)).u h 0 _ (by simp)) ?_ ?_ ?_
      · rw [uA]; omega
      · rw [u2_oth (by omega), u2_row, u2_oth (by omega), e1, fil_step]
      · rw [u2_oth (by omega), u2_oth (by omega), u2_row, e2, fil_step]
  refine lp n 0 I (by omega) Fr.rf ?_ ?_ ?_
  · rw [hD]; rfl
  · rw [fil_0]
  · rw [fil_0]
/-- what stands in a march that is read -/
def maC (J : Nat → Nat → Int) (h : Nat) (many ch : Nat) (Mv Mn Tn : Nat → Int) : Prop := J h 0 = (many : Int) ∧ J h 1 = (ch : Int) ∧ (∀ x, x < many → J (h + 1) x = Mn x ∧ J (h + 2) x = Mv x) ∧ ∀ x, x < ch → J (h + 3) x = Tn x
theorem maC.fr {J J2 : Nat → Nat → Int} {h many ch : Nat} {Mv Mn Tn : Nat → Int} (a : maC J h many ch Mv Mn Tn) (h2 : 2 < h) (G : Fr [] [(1, 2)] J J2) : maC J2 h many ch Mv Mn Tn := by
  have e : ∀ x k, 2 < x → J2 x k = J x k := fun x k hx => G x k (by simp) (by simp <;> omega)
  refine ⟨by rw [e h 0 h2]; exact a.1, by rw [e h 1 h2]; exact a.2.1, fun x hx => ?_, fun x hx => ?_⟩
  · rw [e (h + 1) x (by omega), e (h + 2) x (by omega)]
    exact a.2.2.1 x hx
  · rw [e (h + 3) x (by omega)]
    exact a.2.2.2 x hx
abbrev FrH (h : Nat) (I J : Nat → Nat → Int) : Prop := Fr [h, h + 1, h + 2, h + 3] [(1, 2)] I J
theorem FrH.one {h : Nat} {I J J2 : Nat → Nat → Int} (F : FrH h I J) (G : Fr [] [(1, 2)] J J2) : FrH h I J2 := F.tr G (by simp) (by simp) (by simp) (by simp)
theorem ma_h0 {many ch mv c : Int} {Mv Mn Tn : Nat → Int} (h : isDg c) (h2 : 1 ≤ c - 48) : maStep (0, many, 0, ch, mv, Mv, Mn, Tn) c = some (((1 : Nat) : Int), many, c - 48, ch, mv, Mv, Mn, Tn) := by
  unfold maStep maHead
  dsimp only
  rw [if_pos (by decide), if_pos ⟨h, by decide, Or.inr (by omega)⟩, show 10 * 0 + c - 48 = c - 48 by omega]
  rfl
theorem ma_h1 {many ch mv c v : Int} {Mv Mn Tn : Nat → Int} {d : Nat} (h1 : 1 ≤ d) (h2 : d < 2) (h : isDg c) : maStep ((d : Int), many, v, ch, mv, Mv, Mn, Tn) c = some (((d + 1 : Nat) : Int), many, 10 * v + c - 48, ch, mv, Mv, Mn, Tn) := by
  have : d = 1 := by omega
  subst this
  unfold maStep maHead
  dsimp only
  rw [if_pos (by decide), if_pos ⟨h, by decide, Or.inl (by decide)⟩]
  rfl
theorem ma_hn {st many men ch mv c : Int} {Mv Mn Tn : Nat → Int} (h0 : 0 ≤ st ∧ st < 3) (h1 : st = 0 → ¬ (isDg c ∧ 1 ≤ c - 48)) (h2 : st = 1 → ¬ isDg c) (h3 : 0 < st → c ≠ 58) : maStep (st, many, men, ch, mv, Mv, Mn, Tn) c = none := by
  unfold maStep maHead
  dsimp only
  rw [if_pos h0.2, if_neg (fun z => by
    rcases z with ⟨z1, z2, z3⟩
    by_cases e : st = 0
    · exact h1 e ⟨z1, by omega⟩
    · exact h2 (by omega) z1), if_neg (fun z => h3 z.1 z.2)]
theorem ma_col {st many men ch mv : Int} {Mv Mn Tn : Nat → Int} (h0 : 1 ≤ st ∧ st < 3) : maStep (st, many, men, ch, mv, Mv, Mn, Tn) 58 = some (9, many, men, ch, mv, Mv, Mn, Tn) := by
  unfold maStep maHead
  dsimp only
  rw [if_pos h0.2, if_neg (fun z => by have := z.1.2; omega), if_pos ⟨by omega, rfl⟩]
theorem ma_rest {st many men ch mv c : Int} {Mv Mn Tn : Nat → Int} (h : st = 3 ∨ st = 4 ∨ st = 7 ∨ st = 8 ∨ st = 9) (h7 : st = 7 → ¬ isDg c) (h4 : st = 4 → isDg c → c - 48 < 2 ∨ 10 < many - 1 + (c - 48)) : maStep (st, many, men, ch, mv, Mv, Mn, Tn) c = maRest many men ch mv Mv Mn Tn c := by
  unfold maStep
  dsimp only
  rw [if_neg (by omega)]
  by_cases e : st = 4 ∧ isDg c
  · rw [if_pos e]
    unfold maRep maRest
    rw [if_pos (h4 e.1 e.2)]
    have := e.2.1
    have := e.2.2
    rw [if_neg (by omega)]
    split
    · rfl
    · rw [if_neg (by omega), if_neg (by omega)]
  · rw [if_neg e, if_neg (by omega), if_neg (by omega), if_neg (fun z => h7 z.1 z.2)]
theorem ma_6 {many men ch mv c : Int} {Mv Mn Tn : Nat → Int} (h : isDg c) (h2 : 1 ≤ c - 48) : maStep (6, many, men, ch, mv, Mv, Mn, Tn) c = some ((6 : Int) + ((1 : Nat) : Int), many, c - 48, ch, mv, Mv, Mn, Tn) := by
  unfold maStep
  dsimp only
  rw [if_neg (by decide), if_neg (fun z => absurd z.1 (by decide)), if_neg (by decide), if_pos rfl, if_pos ⟨h, by omega⟩]
  rfl
theorem ma_7 {many ch mv c v : Int} {Mv Mn Tn : Nat → Int} {d : Nat} (h1 : 1 ≤ d) (h2 : d < 2) (h : isDg c) : maStep ((6 : Int) + (d : Int), many, v, ch, mv, Mv, Mn, Tn) c = some ((6 : Int) + ((d + 1 : Nat) : Int), many, 10 * v + c - 48, ch, mv, Mv, Mn, Tn) := by
  have : d = 1 := by omega
  subst this
  unfold maStep
  dsimp only
  rw [if_neg (by decide), if_neg (fun z => absurd z.1 (by decide)), if_neg (by decide), if_neg (by decide), if_pos ⟨by decide, h⟩]
  rfl
theorem ma_6n {many men ch mv c : Int} {Mv Mn Tn : Nat → Int} (h : ¬ (isDg c ∧ 1 ≤ c - 48)) : maStep (6, many, men, ch, mv, Mv, Mn, Tn) c = none := by
  unfold maStep
  dsimp only
  rw [if_neg (by decide), if_neg (fun z => absurd z.1 (by decide)), if_neg (by decide), if_pos rfl, if_neg (fun z => h ⟨z.1, by omega⟩)]
theorem ma_5 {many men ch mv c : Int} {Mv Mn Tn : Nat → Int} (h : isDg c) (h2 : 1 ≤ c - 48) : maStep (5, many, men, ch, mv, Mv, Mn, Tn) c = some (3, many + 1, men, ch + 1, mv, up Mv many.toNat 2, up Mn many.toNat men, up Tn ch.toNat (c - 48)) := by
  unfold maStep
  dsimp only
  rw [if_neg (by decide), if_neg (fun z => absurd z.1 (by decide)), if_pos rfl, if_pos ⟨h, by omega⟩]
theorem ma_5n {many men ch mv c : Int} {Mv Mn Tn : Nat → Int} (h : ¬ (isDg c ∧ 1 ≤ c - 48)) : maStep (5, many, men, ch, mv, Mv, Mn, Tn) c = none := by
  unfold maStep
  dsimp only
  rw [if_neg (by decide), if_neg (fun z => absurd z.1 (by decide)), if_pos rfl, if_neg (fun z => h ⟨z.1, by have := z.1; omega⟩)]
theorem ma_4 {many men ch mv c : Int} {Mv Mn Tn : Nat → Int} (h : isDg c) (h2 : 2 ≤ c - 48) (h3 : many - 1 + (c - 48) ≤ 10) : maStep (4, many, men, ch, mv, Mv, Mn, Tn) c = some (3, many + (c - 49), men, ch, mv, fil Mv many.toNat (c - 49).toNat mv, fil Mn many.toNat (c - 49).toNat men, Tn) := by
  unfold maStep maRep
  dsimp only
  rw [if_neg (by decide), if_pos ⟨rfl, h⟩, if_neg (by omega)]
theorem maR_m {many men ch mv : Int} {Mv Mn Tn : Nat → Int} : maRest many men ch mv Mv Mn Tn 109 = some (6, many, men, ch, mv, Mv, Mn, Tn) := by
  unfold maRest
  rw [if_pos rfl]
theorem maR_c {many men ch mv : Int} {Mv Mn Tn : Nat → Int} (h1 : many ≠ 10) (h2 : ch < 2) : maRest many men ch mv Mv Mn Tn 99 = some (5, many, men, ch, mv, Mv, Mn, Tn) := by
  unfold maRest
  rw [if_neg (by decide), if_neg h1, if_pos rfl, if_pos h2]
theorem maR_s {many men ch mv c : Int} {Mv Mn Tn : Nat → Int} (h1 : many ≠ 10) (h2 : c = 102 ∨ c = 98 ∨ c = 115) : maRest many men ch mv Mv Mn Tn c = some (4, many + 1, men, ch, mvOf c, up Mv many.toNat (mvOf c), up Mn many.toNat men, Tn) := by
  unfold maRest
  rw [if_neg (by omega), if_neg h1, if_neg (by omega), if_pos h2]
theorem maR_n {many men ch mv c : Int} {Mv Mn Tn : Nat → Int} (h1 : c ≠ 109) (h2 : many ≠ 10 → (c = 99 → 2 ≤ ch) ∧ c ≠ 102 ∧ c ≠ 98 ∧ c ≠ 115) : maRest many men ch mv Mv Mn Tn c = none := by
  unfold maRest
  rw [if_neg h1]
  by_cases e : many = 10
  · rw [if_pos e]
  · rw [if_neg e]
    have q := h2 e
    by_cases e2 : c = 99
    · rw [if_pos e2, if_neg (by have := q.1 e2; omega)]
    · rw [if_neg e2, if_neg (by omega)]
theorem fil_up {f : Nat → Int} {o n : Nat} {v : Int} {x : Nat} (hn : 1 ≤ n) : fil (up f o v) (o + 1) (n - 1) v x = fil f o n v x := by
  unfold fil up
  by_cases e : x = o
  · rw [if_neg (by omega), if_pos e, if_pos (by omega)]
  · rw [if_neg e]
    by_cases e2 : o ≤ x ∧ x < o + n
    · rw [if_pos (by omega), if_pos e2]
    · rw [if_neg (by omega), if_neg e2]
theorem fil_1 {f : Nat → Int} {o : Nat} {v : Int} {x : Nat} : fil f o 1 v x = up f o v x := by
  unfold fil up
  by_cases e : x = o
  · rw [if_pos (by omega), if_pos e]
  · rw [if_neg (by omega), if_neg e]
