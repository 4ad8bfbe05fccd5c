/-! the class: a number on its page -/
def nuL (pg : Nat → Int) (len : Nat) : Nat → Int → Nat → Int × Nat
  | 0, v, c => (v, c)
  | r + 1, v, c => if 0 ≤ lkP pg len c - 48 ∧ lkP pg len c - 48 ≤ 9 then nuL pg len r (10 * v + (lkP pg len c - 48)) (c + 1) else (v, c)
def nuP (pg : Nat → Int) (len : Nat) (lo : Int) (n : Nat) (c : Nat) : Int × Nat := if lo ≤ lkP pg len c - 48 ∧ lkP pg len c - 48 ≤ 9 then nuL pg len (n - 1) (lkP pg len c - 48) (c + 1) else (-1, c)
theorem s_number {sh : oS} {I : Nat → Nat → Int} {L : Nat → Nat → Int64} {Q : oQ} (hs : Sh sh) {pg : Nat → Int} {len c n : Nat} {lo : Int} (h : pgA I pg len c) (hl : 0 ≤ lo ∧ lo ≤ 9) (hn : 1 ≤ n ∧ n ≤ 3)
    (k : ∀ J, Fr [] [(1, 2)] I J → pgA J pg len (nuP pg len lo n c).2 → Q (some (vI (nuP pg len lo n c).1)) (sh, J, L)) : T_X8_number [vR 1, vI lo, vI (n : Int)] (sh, I, L) Q := by
  refine And.intro (Nat.le_of_ble_eq_true rfl) (fun K hK => ?_)
  have bd := h.bd
  unfold nuP at k
  refine B_X8_number_0 hK hs (k := ?_)
  refine s_digit hs h hl (by decide) (fun d1 d2 g hp => ?_) (fun d => ?_)
  rotate_left
  · rw [if_neg d] at k
    refine B_X8_number_7 hK (k := ?_)
    have out : K 51 [none, none, none, some (vI (-1)), none, none] [] (sh, I, L) (0, 0) := B_X8_number_51 hK (k := k I Fr.rf h)
    refine B_X8_number_11 hK (n14a := by decide) (n14b := by omega) (kt := fun _ => out) (kf := fun _ => ?_)
    exact B_X8_number_17 hK (n18 := by decide) (kt := fun _ => out) (kf := fun t => absurd (by decide) t)
  rw [if_pos ⟨d1, d2⟩] at k
  refine B_X8_number_7 hK (k := ?_)
  have lp : ∀ (r i : Nat) (v : Int) (e : Nat) (J : Nat → Nat → Int), i + r = n → 1 ≤ i → 0 ≤ v → v ≤ 10 ^ i - 1 → Fr [] [(1, 2)] I J → pgA J pg len e → (∀ J2, Fr [] [(1, 2)] I J2 → pgA J2 pg len (nuL pg len r v e).2 → Q (some (vI (nuL pg len r v e).1)) (sh, J2, L)) → K 11 [some (vR 1), none, some (vI (n : Int)), some (vI v), some (vI (i : Int)), none] [] (sh, J, L) (0, 0) := by
    intro r
    induction r with
    | zero =>
      intro i v e J hi h1 hv hv2 FJ pJ kk
      have iv : inR v := by
        have : i = 1 ∨ i = 2 ∨ i = 3 := by omega
        rcases this with z | z | z <;> rw [z] at hv2 <;> omega
      refine B_X8_number_11 hK (n14a := by omega) (n14b := by omega) (kt := fun _ => ?_) (kf := fun t => absurd (by omega) t)
      exact B_X8_number_51 hK (k := kk J FJ pJ)
    | succ r ih =>
      intro i v e J hi h1 hv hv2 FJ pJ kk
      have iv : v ≤ 1000 := by
        have : i = 1 ∨ i = 2 ∨ i = 3 := by omega
        rcases this with z | z | z <;> rw [z] at hv2 <;> omega
      have bd2 := pJ.bd
      refine B_X8_number_11 hK (n14a := by omega) (n14b := by omega) (kt := fun t => absurd t (by omega)) (kf := fun _ => ?_)
      refine B_X8_number_17 hK (n18 := by omega) (kt := fun t => absurd t (by omega)) (kf := fun _ => ?_)
      refine B_X8_number_21 hK hs (k := ?_)
      unfold nuL at kk
      refine s_digit hs pJ (by decide) (by decide) (fun x1 x2 g2 hp2 => ?_) (fun x => ?_)
      · rw [if_pos ⟨x1, x2⟩] at kk
        refine B_X8_number_28 hK (n32 := by omega) (kt := fun _ => ?_) (kf := fun t => absurd (by omega) t)
        refine B_X8_number_37 hK (k := ?_)
        refine ih (i + 1) _ (e + 1) _ (by omega) (by omega) (by omega) ?_ (FJ.u 1 2 _ (by simp)) hp2 kk
        rw [Int.pow_succ]
        omega
      · rw [if_neg x] at kk
        refine B_X8_number_28 hK (n32 := by decide) (kt := fun t => absurd t (by decide)) (kf := fun _ => ?_)
        exact B_X8_number_35 hK (k := kk J FJ pJ)
  exact lp (n - 1) 1 _ (c + 1) _ (by omega) (by omega) (by omega) (by omega) (Fr.rf.u 1 2 _ (by simp)) hp k
