/-! the class reads a land: what ovens do -/
theorem la_nu {st p c : Int} {F W Ld : Nat → Int} {x : Option laS} (h : 5 ≤ st) (e : laNu st p F W Ld c = x) : laStep (st, p, F, W, Ld) c = x := by
  unfold laStep
  dsimp only
  rw [if_neg (by omega)]
  exact e
theorem la_5 {p : Int} {F W Ld : Nat → Int} : laStep (5, p, F, W, Ld) 98 = some (6, p, F, W, Ld) := la_nu (by decide) rfl
theorem la_6 {p c : Int} {F W Ld : Nat → Int} (h : isDg c) (h2 : 1 ≤ c - 48) : laStep (6, p, F, W, Ld) c = some (((6 : Int) + ((1 : Nat) : Int)), p, F, W, up Ld 0 (c - 48)) := la_nu (by decide) (by
  unfold laNu
  rw [if_neg (by decide), if_pos rfl, if_pos ⟨h, by omega⟩]
  rfl)
theorem la_7 {p c v : Int} {F W Ld : Nat → Int} {d : Nat} (h1 : 1 ≤ d) (h2 : d < 2) (h : isDg c) : laStep (((6 : Int) + (d : Int)), p, F, W, up Ld 0 v) c = some (((6 : Int) + ((d + 1 : Nat) : Int)), p, F, W, up Ld 0 (10 * v + c - 48)) := by
  have : d = 1 := by omega
  subst this
  refine la_nu (by omega) ?_
  unfold laNu
  rw [if_neg (by decide), if_neg (by decide), if_pos (by decide), if_pos h, up_at, up_up]
  rfl
theorem la_8 {p st : Int} {F W Ld : Nat → Int} (h : st = 7 ∨ st = 8) : laStep (st, p, F, W, Ld) 100 = some (9, p, F, W, Ld) := by
  rcases h with e | e <;> subst e <;> exact la_nu (by decide) rfl
theorem la_9 {p c : Int} {F W Ld : Nat → Int} (h : isDg c) : laStep (9, p, F, W, Ld) c = some (10, p, F, W, up Ld 1 (c - 48)) := la_nu (by decide) (by
  unfold laNu
  rw [if_neg (by decide), if_neg (by decide), if_neg (by decide), if_neg (by decide), if_pos rfl, if_pos h])
theorem la_10 {p : Int} {F W Ld : Nat → Int} : laStep (10, p, F, W, Ld) 107 = some (11, p, F, W, Ld) := la_nu (by decide) rfl
theorem la_11 {p c : Int} {F W Ld : Nat → Int} (h : isDg c) (h2 : 1 ≤ c - 48) : laStep (11, p, F, W, Ld) c = some (12, p, F, W, up Ld 2 (c - 48)) := la_nu (by decide) (by
  unfold laNu
  rw [if_neg (by decide), if_neg (by decide), if_neg (by decide), if_neg (by decide), if_neg (by decide), if_neg (by decide), if_pos rfl, if_pos ⟨h, by omega⟩])
theorem la_12 {p : Int} {F W Ld : Nat → Int} : laStep (12, p, F, W, Ld) 114 = some (13, p, F, W, Ld) := la_nu (by decide) rfl
theorem la_13 {p c st : Int} {F W Ld : Nat → Int} (h1 : 13 ≤ st) (h2 : st < 16) (h : isDg c) : laStep (st, p, F, W, Ld) c = some (st + 1, p, F, W, up Ld 3 (10 * Ld 3 + c - 48)) := la_nu (by omega) (by
  unfold laNu
  rw [if_neg (by omega), if_neg (by omega), if_neg (by omega), if_neg (by omega), if_neg (by omega), if_neg (by omega), if_neg (by omega), if_neg (by omega), if_neg (by omega), if_pos h])
/-- where nothing goes on -/
theorem la_stop {st p c : Int} {F W Ld : Nat → Int} (h : 5 ≤ st) (h5 : st = 5 → c ≠ 98) (h6 : st = 6 → ¬ (isDg c ∧ 1 ≤ c - 48)) (h7 : st = 7 → ¬ isDg c) (h8 : st = 7 ∨ st = 8 → c ≠ 100) (h9 : st = 9 → ¬ isDg c) (h10 : st = 10 → c ≠ 107) (h11 : st = 11 → ¬ (isDg c ∧ 1 ≤ c - 48)) (h12 : st = 12 → c ≠ 114) (h13 : 13 ≤ st → st < 16 → ¬ isDg c) (h16 : st ≤ 16) : laStep (st, p, F, W, Ld) c = none := la_nu h (by
  unfold laNu
  by_cases e5 : st = 5
  · rw [if_pos e5, if_neg (h5 e5)]
  rw [if_neg e5]
  by_cases e6 : st = 6
  · rw [if_pos e6, if_neg (fun z => h6 e6 ⟨z.1, by omega⟩)]
  rw [if_neg e6]
  by_cases e7 : st = 7
  · rw [if_pos e7, if_neg (h7 e7), if_neg (h8 (Or.inl e7))]
  rw [if_neg e7]
  by_cases e8 : st = 8
  · rw [if_pos e8, if_neg (h8 (Or.inr e8))]
  rw [if_neg e8]
  by_cases e9 : st = 9
  · rw [if_pos e9, if_neg (h9 e9)]
  rw [if_neg e9]
  by_cases e10 : st = 10
  · rw [if_pos e10, if_neg (h10 e10)]
  rw [if_neg e10]
  by_cases e11 : st = 11
  · rw [if_pos e11, if_neg (fun z => h11 e11 ⟨z.1, by omega⟩)]
  rw [if_neg e11]
  by_cases e12 : st = 12
  · rw [if_pos e12, if_neg (h12 e12)]
  rw [if_neg e12]
  by_cases e16 : st = 16
  · rw [if_pos e16]
  rw [if_neg e16, if_neg (h13 (by omega) (by omega))])
def laCN (J : Nat → Nat → Int) (Ld : Nat → Int) : Prop := J 6 3 = Ld 0 ∧ J 6 4 = Ld 1 ∧ J 6 5 = Ld 2 ∧ J 6 6 = Ld 3
set_option maxHeartbeats 1000000 in
theorem s_readOvens {sh : oS} {I : Nat → Nat → Int} {L : Nat → Nat → Int64} {Q : oQ} (hs : Sh sh) {pg : Nat → Int} {len c p : Nat} {s0 : laS} {st : Int} {F W Ld : Nat → Int} (hp : pgA I pg len c) (hr : rdAt laStep s0 pg c = some (st, (p : Int), F, W, Ld)) (hb : 2 ≤ p ∧ p ≤ 8) (hst : 1 ≤ st ∧ st ≤ 4) (g1 : st < 3 → ¬ isDg (lkP pg len c)) (g2 : st < 4 → lkP pg len c ≠ 119) (g3 : (p : Int) = 8 ∨ lkP pg len c ≠ 44) (h3 : Ld 3 = 0)
    (k0 : ∀ J (c : Nat) (s : laS), Fr [] [(1, 2), (6, 3), (6, 4), (6, 5), (6, 6)] I J → pgA J pg len c → rdEnd laStep s0 pg len c s → ¬ laE s → Q (some (vI 0)) (sh, J, L))
    (k1 : ∀ J (c : Nat) (st : Int) (Ld2 : Nat → Int), Fr [] [(1, 2), (6, 3), (6, 4), (6, 5), (6, 6)] I J → pgA J pg len c → rdEnd laStep s0 pg len c (st, (p : Int), F, W, Ld2) → (st = 12 ∨ 13 < st) → laCN J Ld2 → Q (some (vI 1)) (sh, J, L)) : T_X4_readOvens [vR 6, vR 1] (sh, I, L) Q := by
  refine And.intro (Nat.le_of_ble_eq_true rfl) (fun K hK => ?_)
  have A := landO hs
  have one : ∀ {J J2 : Nat → Nat → Int}, Fr [] [(1, 2), (6, 3), (6, 4), (6, 5), (6, 6)] I J → Fr [] [(1, 2)] J J2 → Fr [] [(1, 2), (6, 3), (6, 4), (6, 5), (6, 6)] I J2 := fun a b => a.tr b (by simp) (by simp) (by simp) (by simp)
  refine B_X4_readOvens_0 hK hs (k := ?_)
  refine s_take hs hp (by decide) (fun t1 t2 t3 => ?_) (fun t => ?_)
  rotate_left
  · refine B_X4_readOvens_6 hK (n6 := by decide) (kt := fun _ => ?_) (kf := fun z => absurd rfl z)
    refine B_X4_readOvens_18 hK (k := ?_)
    exact k0 I c _ Fr.rf hp (rd_no hr hp.2.2.2.1 (fun _ => la_no hst.1 hst.2 g1 g2 g3 (Or.inl t))) (by unfold laE; dsimp only; omega)
  refine B_X4_readOvens_6 hK (n6 := by decide) (kt := fun z => absurd z (by decide)) (kf := fun _ => ?_)
  have r5 := rd_go hr t2 t1
  rw [la_s hst.1 hst.2 (by omega)] at r5
  have F5 : Fr [] [(1, 2), (6, 3), (6, 4), (6, 5), (6, 6)] I (u2 I 1 2 (I 1 2 + 1)) := Fr.rf.u 1 2 _ (by simp)
  generalize u2 I 1 2 (I 1 2 + 1) = J5 at *
  clear t1 t2
  refine B_X4_readOvens_9 hK hs (k := ?_)
  refine s_take hs t3 (by decide) (fun t1 t2 t4 => ?_) (fun t => ?_)
  rotate_left
  · refine B_X4_readOvens_15 hK (n15 := by decide) (kt := fun z => absurd rfl z) (kf := fun _ => ?_)
    refine B_X4_readOvens_18 hK (k := ?_)
    exact k0 _ _ _ F5 t3 (rd_no r5 t3.2.2.2.1 (fun _ => la_stop (by omega) (fun _ => t) (by omega) (by omega) (by omega) (by omega) (by omega) (by omega) (by omega) (by omega) (by omega))) (by unfold laE; dsimp only; omega)
  refine B_X4_readOvens_15 hK (n15 := by decide) (kt := fun _ => ?_) (kf := fun z => absurd (by decide) z)
  have r6 := rd_go r5 t2 t1
  rw [la_5] at r6
  have F6 := F5.u 1 2 (J5 1 2 + 1) (by simp)
  generalize u2 J5 1 2 (J5 1 2 + 1) = J6 at *
  clear t1 t2
  refine B_X4_readOvens_20 hK hs (k := ?_)
  refine s_numR hs (n := 2) (fun d v => ((6 : Int) + (d : Int), (p : Int), F, W, up Ld 0 v)) t4 r6 (by decide) (by decide) (fun ch z z2 => la_6 z z2) (fun d v ch z1 z2 z => la_7 z1 z2 z) (fun J7 c7 d7 v7 F7 hp7 r7 b1 b2 b3 b4 _ => ?_) (fun J7 F7 hp7 nd => ?_)
  rotate_left
  · refine B_X4_readOvens_27 hK (As0 := A) (Ah0 := A) (n34 := by rw [uA]; decide) (kt := fun z => ?_) (kf := fun z => absurd (by rw [uA]; decide) z)
    refine B_X4_readOvens_46 hK (k := ?_)
    exact k0 _ _ _ ((one F6 F7).u 6 3 _ (by simp)) (hp7.u (by decide) (by decide)) (rd_no r6 t4.2.2.2.1 (fun _ => la_stop (by omega) (by omega) (fun _ => nd) (by omega) (by omega) (by omega) (by omega) (by omega) (by omega) (by omega) (by omega))) (by unfold laE; dsimp only; omega)
  have v9 : v7 ≤ 99 := by
    have : d7 = 1 ∨ d7 = 2 := by omega
    rcases this with z | z <;> rw [z] at b3 <;> omega
  refine B_X4_readOvens_27 hK (As0 := A) (Ah0 := A) (n34 := by rw [uA]; omega) (kt := fun z => absurd z (by rw [uA]; omega)) (kf := fun z => ?_)
  have hp8 : pgA (u2 J7 6 3 v7) pg len c7 := hp7.u (by decide) (by decide)
  have F8 := (one F6 F7).u 6 3 v7 (by simp)
  have w8 : u2 J7 6 3 v7 6 3 = v7 := uA
  generalize u2 J7 6 3 v7 = J8 at *
  refine B_X4_readOvens_37 hK hs (k := ?_)
  refine s_take hs hp8 (by decide) (fun t1 t2 t5 => ?_) (fun t => ?_)
  rotate_left
  · refine B_X4_readOvens_43 hK (n43 := by decide) (kt := fun z => absurd rfl z) (kf := fun _ => ?_)
    refine B_X4_readOvens_46 hK (k := ?_)
    exact k0 _ _ _ F8 hp8 (rd_no r7 hp8.2.2.2.1 (fun _ => la_stop (by omega) (by omega) (by omega) (fun e => b4 (by omega)) (fun _ => t) (by omega) (by omega) (by omega) (by omega) (by omega) (by omega))) (by unfold laE; dsimp only; omega)
  refine B_X4_readOvens_43 hK (n43 := by decide) (kt := fun _ => ?_) (kf := fun z => absurd (by decide) z)
  have r9 := rd_go r7 t2 t1
  rw [la_8 (by omega)] at r9
  have F9 := F8.u 1 2 (J8 1 2 + 1) (by simp)
  have w9 : u2 J8 1 2 (J8 1 2 + 1) 6 3 = v7 := by rw [uN (by decide)]; exact w8
  generalize u2 J8 1 2 (J8 1 2 + 1) = J9 at *
  clear t1 t2
  refine B_X4_readOvens_48 hK hs (k := ?_)
  refine s_digit hs t5 (by decide) (by decide) (fun d1 d2 d3 d4 => ?_) (fun d => ?_)
  rotate_left
  · refine B_X4_readOvens_56 hK (As0 := A) (Ah0 := A) (n63 := by rw [uA]; decide) (kt := fun z => ?_) (kf := fun z => absurd (by rw [uA]; decide) z)
    refine B_X4_readOvens_75 hK (k := ?_)
    exact k0 _ _ _ (F9.u 6 4 _ (by simp)) (t5.u (by decide) (by decide)) (rd_no r9 t5.2.2.2.1 (fun _ => la_stop (by omega) (by omega) (by omega) (by omega) (by omega) (fun _ z => d (by have := z.1; have := z.2; omega)) (by omega) (by omega) (by omega) (by omega) (by omega))) (by unfold laE; dsimp only; omega)
  have r10 := rd_go r9 d3 rfl
  generalize lkP pg len c7 = x7 at *
  generalize lkP pg len (c7 + 1) = x8 at *
  rw [la_9 ⟨by omega, by omega⟩] at r10
  refine B_X4_readOvens_56 hK (As0 := A) (Ah0 := A) (n63 := by rw [uA]; omega) (kt := fun z => absurd z (by rw [uA]; omega)) (kf := fun z => ?_)
  have hp11 : pgA (u2 (u2 J9 1 2 (J9 1 2 + 1)) 6 4 (x8 - 48)) pg len (c7 + 1 + 1) := d4.u (by decide) (by decide)
  have F11 := (F9.u 1 2 (J9 1 2 + 1) (by simp)).u 6 4 (x8 - 48) (by simp)
  have w11 : u2 (u2 J9 1 2 (J9 1 2 + 1)) 6 4 (x8 - 48) 6 3 = v7 ∧ u2 (u2 J9 1 2 (J9 1 2 + 1)) 6 4 (x8 - 48) 6 4 = x8 - 48 := ⟨by rw [uK (by decide), uN (by decide)]; exact w9, uA⟩
  generalize u2 (u2 J9 1 2 (J9 1 2 + 1)) 6 4 (x8 - 48) = J11 at *
  refine B_X4_readOvens_66 hK hs (k := ?_)
  refine s_take hs hp11 (by decide) (fun t1 t2 t6 => ?_) (fun t => ?_)
  rotate_left
  · refine B_X4_readOvens_72 hK (n72 := by decide) (kt := fun z => absurd rfl z) (kf := fun _ => ?_)
    refine B_X4_readOvens_75 hK (k := ?_)
    exact k0 _ _ _ F11 hp11 (rd_no r10 hp11.2.2.2.1 (fun _ => la_stop (by omega) (by omega) (by omega) (by omega) (by omega) (by omega) (fun _ => t) (by omega) (by omega) (by omega) (by omega))) (by unfold laE; dsimp only; omega)
  refine B_X4_readOvens_72 hK (n72 := by decide) (kt := fun _ => ?_) (kf := fun z => absurd (by decide) z)
  have r11 := rd_go r10 t2 t1
  rw [la_10] at r11
  have F12 := F11.u 1 2 (J11 1 2 + 1) (by simp)
  have w12 : u2 J11 1 2 (J11 1 2 + 1) 6 3 = v7 ∧ u2 J11 1 2 (J11 1 2 + 1) 6 4 = x8 - 48 := by
    rw [uN (by decide), uN (by decide)]
    exact w11
  generalize u2 J11 1 2 (J11 1 2 + 1) = J12 at *
  clear t1 t2
  refine B_X4_readOvens_77 hK hs (k := ?_)
  refine s_digit hs t6 (by decide) (by decide) (fun e1 e2 e3 e4 => ?_) (fun d => ?_)
  rotate_left
  · refine B_X4_readOvens_85 hK (As0 := A) (Ah0 := A) (n92 := by rw [uA]; decide) (kt := fun z => absurd z (by rw [uA]; decide)) (kf := fun z => ?_)
    refine B_X4_readOvens_95 hK (k := ?_)
    exact k0 _ _ _ (F12.u 6 5 _ (by simp)) (t6.u (by decide) (by decide)) (rd_no r11 t6.2.2.2.1 (fun _ => la_stop (by omega) (by omega) (by omega) (by omega) (by omega) (by omega) (by omega) (fun _ z => d (by have := z.1.1; have := z.1.2; have := z.2; omega)) (by omega) (by omega) (by omega))) (by unfold laE; dsimp only; omega)
  have r12 := rd_go r11 e3 rfl
  generalize lkP pg len (c7 + 1 + 1 + 1) = x9 at *
  rw [la_11 ⟨by omega, by omega⟩ e1] at r12
  refine B_X4_readOvens_85 hK (As0 := A) (Ah0 := A) (n92 := by rw [uA]; omega) (kt := fun z => ?_) (kf := fun z => absurd (by rw [uA]; omega) z)
  have hp13 : pgA (u2 (u2 J12 1 2 (J12 1 2 + 1)) 6 5 (x9 - 48)) pg len (c7 + 1 + 1 + 1 + 1) := e4.u (by decide) (by decide)
  have F13 := (F12.u 1 2 (J12 1 2 + 1) (by simp)).u 6 5 (x9 - 48) (by simp)
  have w13 : u2 (u2 J12 1 2 (J12 1 2 + 1)) 6 5 (x9 - 48) 6 3 = v7 ∧ u2 (u2 J12 1 2 (J12 1 2 + 1)) 6 5 (x9 - 48) 6 4 = x8 - 48 ∧ u2 (u2 J12 1 2 (J12 1 2 + 1)) 6 5 (x9 - 48) 6 5 = x9 - 48 := by
    rw [uK (by decide), uN (by decide), uK (by decide), uN (by decide)]
    exact ⟨w12.1, w12.2, uA⟩
  generalize u2 (u2 J12 1 2 (J12 1 2 + 1)) 6 5 (x9 - 48) = J13 at *
  -- the end, with biscuit
  have fin : ∀ (J : Nat → Nat → Int) (c : Nat) (st y : Int) (Ld2 : Nat → Int), Fr [] [(1, 2)] J13 J → pgA J pg len c → rdEnd laStep s0 pg len c (st, (p : Int), F, W, Ld2) → (st = 12 ∨ 13 < st) → 0 ≤ y → y ≤ 1000 → Ld2 0 = v7 → Ld2 1 = x8 - 48 → Ld2 2 = x9 - 48 → Ld2 3 = y → K 117 [some (vR 6), none] [vI y, vR 6] (sh, J, L) (0, 0) := by
    intro J c st y Ld2 FJ hpJ hE hst hy0 hy q0 q1 q2 q3
    refine B_X4_readOvens_117 hK (As0 := A) (Ah0 := A) (n124 := by rw [uA]; omega) (kt := fun z => absurd z (by rw [uA]; omega)) (kf := fun z => ?_)
    refine B_X4_readOvens_127 hK (k := ?_)
    refine B_X4_readOvens_132 hK (o132 := Or.inr rfl) (k := ?_)
    refine k1 _ c st Ld2 ((one F13 FJ).u 6 6 _ (by simp)) (hpJ.u (by decide) (by decide)) hE hst ⟨?_, ?_, ?_, ?_⟩
    · rw [uK (by decide), FJ 6 3 (by simp) (by simp), w13.1, q0]
    · rw [uK (by decide), FJ 6 4 (by simp) (by simp), w13.2.1, q1]
    · rw [uK (by decide), FJ 6 5 (by simp) (by simp), w13.2.2, q2]
    · rw [uA, q3]
  refine B_X4_readOvens_97 hK hs (k := ?_)
  refine s_take hs hp13 (by decide) (fun t1 t2 t7 => ?_) (fun t => ?_)
  rotate_left
  · refine B_X4_readOvens_104 hK (n104 := by decide) (kt := fun _ => ?_) (kf := fun z => absurd rfl z)
    refine B_X4_readOvens_116 hK (k := ?_)
    exact fin J13 _ 12 0 _ Fr.rf hp13 (rd_no r12 hp13.2.2.2.1 (fun _ => la_stop (by omega) (by omega) (by omega) (by omega) (by omega) (by omega) (by omega) (by omega) (fun _ => t) (by omega) (by omega))) (by omega) (by omega) (by omega) rfl rfl rfl h3
  refine B_X4_readOvens_104 hK (n104 := by decide) (kt := fun z => absurd z (by decide)) (kf := fun _ => ?_)
  have r13 := rd_go r12 t2 t1
  rw [la_12] at r13
  refine B_X4_readOvens_107 hK hs (k := ?_)
  refine s_numR hs (n := 3) (fun d v => ((13 : Int) + (d : Int), (p : Int), F, W, up (up (up (up Ld 0 v7) 1 (x8 - 48)) 2 (x9 - 48)) 3 v)) t7 r13 (by decide) (by decide) (fun ch z z2 => ?_) (fun d v ch z1 z2 z => ?_) (fun J14 c14 d14 v14 F14 hp14 r14 b1 b2 b3 b4 _ => ?_) (fun J14 F14 hp14 nd => ?_)
  · rw [la_13 (by decide) (by decide) z]
    have : up (up (up Ld 0 v7) 1 (x8 - 48)) 2 (x9 - 48) 3 = 0 := h3
    rw [this, show 10 * 0 + ch - 48 = ch - 48 by omega]
    rfl
  · rw [la_13 (by omega) (by omega) z, up_at, up_up]
    rfl
  · have v10 : v14 ≤ 999 := by
      have : d14 = 1 ∨ d14 = 2 ∨ d14 = 3 := by omega
      rcases this with z | z | z <;> rw [z] at b3 <;> omega
    refine B_X4_readOvens_113 hK (k := ?_)
    exact fin J14 _ _ v14 _ (fr12.tr F14 (by simp) (by simp) (by simp) (by simp)) hp14 (rd_no r14 hp14.2.2.2.1 (fun _ => la_stop (by omega) (by omega) (by omega) (by omega) (by omega) (by omega) (by omega) (by omega) (by omega) (fun _ z => b4 (by omega)) (by omega))) (by omega) b3.1 (by omega) rfl rfl rfl rfl
  · refine B_X4_readOvens_113 hK (k := ?_)
    refine B_X4_readOvens_117 hK (As0 := A) (Ah0 := A) (n124 := by rw [uA]; decide) (kt := fun z => ?_) (kf := fun z => absurd (by rw [uA]; decide) z)
    refine B_X4_readOvens_131 hK (k := ?_)
    refine B_X4_readOvens_132 hK (o132 := Or.inl rfl) (k := ?_)
    exact k0 _ _ _ ((one (one F13 fr12) F14).u 6 6 _ (by simp)) (hp14.u (by decide) (by decide)) (rd_no r13 t7.2.2.2.1 (fun _ => la_stop (by omega) (by omega) (by omega) (by omega) (by omega) (by omega) (by omega) (by omega) (by omega) (fun _ _ z => nd ⟨z, by have := z.1; omega⟩) (by omega))) (by unfold laE; dsimp only; omega)
/-- what a land that was read is -/
def laIs (J : Nat → Nat → Int) (s : laS) : Prop := J 6 0 = s.2.1 ∧ (∀ x : Nat, (x : Int) < s.2.1 → J 7 x = s.2.2.1 x ∧ J 8 x = s.2.2.2.1 x) ∧ laCN J s.2.2.2.2
theorem s_rdLand {sh : oS} {I : Nat → Nat → Int} {L : Nat → Nat → Int64} {Q : oQ} (hs : Sh sh) {pg : Nat → Int} {len : Nat} {s0 : laS} {F0 W0 Ld : Nat → Int} (h : pgB I pg len) (h0 : s0 = (0, 0, F0, W0, Ld)) (h3 : Ld 3 = 0)
    (k : ∀ J (n : Nat) (s : laS) (r : Int), FrO I J → J 1 2 = (n : Int) → rdEnd laStep s0 pg len n s → ((r = 1 ∧ (n = len ∧ laE s) ∧ laIs J s) ∨ (r = 0 ∧ ¬ (n = len ∧ laE s))) → Q (some (vI r)) (sh, J, L)) : T_X4_read [vR 6, vR 1] (sh, I, L) Q := by
  refine And.intro (Nat.le_of_ble_eq_true rfl) (fun K hK => ?_)
  have A := landO hs
  refine B_X4_read_0 hK hs (Ah0 := A) (k := ?_)
  refine s_fill (n := 8) A.2.2.2.1.1 A.2.2.2.1.2 (by decide) (fun J1 F1 _ => ?_)
  have FO1 : FrO I J1 := (fr12 (v := 0)).tr F1 (by simp) (by simp) (by simp) (by simp)
  have hp1 : pgA J1 pg len 0 := h.at0.fr (F1 1 1 (by simp) (by simp)) (F1 1 2 (by simp) (by simp)) (by funext x; exact F1 2 x (by simp) (by simp))
  refine B_X4_read_13 hK (Ah0 := A) (k := ?_)
  have no : ∀ (J : Nat → Nat → Int) (c : Nat) (s : laS), FrO I J → pgA J pg len c → rdEnd laStep s0 pg len c s → ¬ (c = len ∧ laE s) → K 40 [none, none] [] (sh, J, L) (0, 0) := by
    intro J c s FJ hp hE hn
    refine B_X4_read_40 hK (k := ?_)
    refine B_X4_read_41 hK (o41 := Or.inl rfl) (k := ?_)
    exact k J c s 0 FJ hp.2.1 hE (Or.inr ⟨rfl, hn⟩)
  refine s_readPlaces hs hp1 h0 (fun J c s FJ hp hE hst => ?_) (fun J c p st F W FJ hp hr hb hst g1 g2 g3 hc => ?_)
  · refine B_X4_read_18 hK (n18 := by decide) (kt := fun _ => ?_) (kf := fun z => absurd rfl z)
    exact no J c s (FO1.tr FJ (by simp) (by simp) (by simp) (by simp)) hp hE (fun z => by have := z.2; unfold laE at this; omega)
  · refine B_X4_read_18 hK (n18 := by decide) (kt := fun z => absurd z (by decide)) (kf := fun _ => ?_)
    have FO2 : FrO I J := FO1.tr FJ (by simp) (by simp) (by simp) (by simp)
    refine B_X4_read_21 hK (Ah0 := A) (k := ?_)
    refine s_readOvens hs hp hr hb hst g1 g2 g3 h3 (fun J2 c2 s2 F2 hp2 hE2 n2 => ?_) (fun J2 c2 st2 Ld2 F2 hp2 hE2 n2 w2 => ?_)
    · refine B_X4_read_26 hK (n26 := by decide) (kt := fun _ => ?_) (kf := fun z => absurd rfl z)
      exact no J2 c2 s2 (FO2.tr F2 (by simp) (by simp) (by simp) (by simp)) hp2 hE2 (fun z => n2 z.2)
    · refine B_X4_read_26 hK (n26 := by decide) (kt := fun z => absurd z (by decide)) (kf := fun _ => ?_)
      have FO3 : FrO I J2 := FO2.tr F2 (by simp) (by simp) (by simp) (by simp)
      refine B_X4_read_29 hK hs (k := ?_)
      refine s_atEnd hs hp2 (fun r hr2 => ?_)
      refine B_X4_read_33 hK (n33 := by omega) (kt := fun z => ?_) (kf := fun z => ?_)
      · exact no J2 c2 _ FO3 hp2 hE2 (fun y => by have := y.1; omega)
      · refine B_X4_read_36 hK (k := ?_)
        refine B_X4_read_41 hK (o41 := Or.inr rfl) (k := ?_)
        refine k J2 c2 _ 1 FO3 hp2.2.1 hE2 (Or.inl ⟨rfl, ⟨by omega, n2⟩, ?_, fun x hx => ?_, w2⟩)
        · rw [F2 6 0 (by simp) (by simp)]; exact hc.1
        · rw [F2 7 x (by simp) (by simp), F2 8 x (by simp) (by simp)]
          exact hc.2 x (by dsimp only at hx; omega)
