/-! the class reads stands -/
def TA (sh : oS) (h : Nat) : Prop := ToldAt sh h (h + 1) (h + 2) (h + 3) ∧ (h = 19 ∨ 77 ≤ h)
def seC (J : Nat → Nat → Int) (h i : Nat) (T : Nat → Int) : Prop := ∀ x, x < i → J (h + 1) x = T (3 * x) ∧ J (h + 2) x = T (3 * x + 1) ∧ J (h + 3) x = T (3 * x + 2)
theorem seC.fr {J J2 : Nat → Nat → Int} {h i : Nat} {T : Nat → Int} (a : seC J h i T) (h2 : 2 < h) (G : Fr [] [(1, 2)] J J2) : seC J2 h i T := by
  intro x hx
  rw [G (h + 1) x (by simp) (by simp <;> omega), G (h + 2) x (by simp) (by simp), G (h + 3) x (by simp) (by simp)]
  exact a x hx
abbrev FrT (h : Nat) (I J : Nat → Nat → Int) : Prop := Fr [h + 1, h + 2, h + 3] [(1, 2)] I J
theorem FrT.one {h : Nat} {I J J2 : Nat → Nat → Int} (F : FrT h I J) (G : Fr [] [(1, 2)] J J2) : FrT h I J2 := F.tr G (by simp) (by simp) (by simp) (by simp)
theorem se_0 {i : Nat} {c : Int} {T : Nat → Int} (h : 48 ≤ c ∧ c ≤ 55) : seStep (0, (i : Int), T) c = some (1, (i : Int) + 1, up (up (up T (3 * i) (c - 48)) (3 * i + 1) 0) (3 * i + 2) 0) := by
  unfold seStep
  dsimp only
  rw [if_pos rfl, if_pos h, show (3 * (i : Int)).toNat = 3 * i by omega, show (3 * (i : Int) + 1).toNat = 3 * i + 1 by omega, show (3 * (i : Int) + 2).toNat = 3 * i + 2 by omega]
theorem se_0n {i c : Int} {T : Nat → Int} (h : ¬ (48 ≤ c ∧ c ≤ 55)) : seStep (0, i, T) c = none := by
  unfold seStep
  dsimp only
  rw [if_pos rfl, if_neg h]
theorem se_1 {i c : Int} {T : Nat → Int} : seStep (1, i, T) c = if c = 100 then some (2, i, T) else none := by
  unfold seStep
  dsimp only
  rw [if_neg (by decide), if_pos rfl]
theorem se_2 {i : Nat} {c st v : Int} {T : Nat → Int} (h1 : 2 ≤ st) (h2 : st < 4) (h : isDg c) (e : T (3 * i + 1) = v) : seStep (st, (i : Int) + 1, T) c = some (st + 1, (i : Int) + 1, up T (3 * i + 1) (10 * v + c - 48)) := by
  unfold seStep
  dsimp only
  rw [if_neg (by omega), if_neg (by omega), if_pos (by omega), if_pos ⟨h, h2⟩, show (3 * ((i : Int) + 1) - 2).toNat = 3 * i + 1 by omega, e]
theorem se_2m {i st : Int} {T : Nat → Int} (h1 : 3 ≤ st) (h2 : st ≤ 4) : seStep (st, i, T) 45 = some (5, i, T) := by
  unfold seStep
  dsimp only
  rw [if_neg (by omega), if_neg (by omega), if_pos (by omega), if_neg (fun z => by have := z.1.1; omega), if_pos ⟨by omega, rfl⟩]
theorem se_2n {i st c : Int} {T : Nat → Int} (h1 : 2 ≤ st) (h2 : st ≤ 4) (h3 : st < 4 → ¬ isDg c) (h4 : 2 < st → c ≠ 45) : seStep (st, i, T) c = none := by
  unfold seStep
  dsimp only
  rw [if_neg (by omega), if_neg (by omega), if_pos (by omega), if_neg (fun z => h3 z.2 z.1), if_neg (fun z => h4 z.1 z.2)]
theorem se_5 {i : Nat} {c st v : Int} {T : Nat → Int} (h1 : 5 ≤ st) (h2 : st < 7) (h : isDg c) (e : T (3 * i + 2) = v) : seStep (st, (i : Int) + 1, T) c = some (st + 1, (i : Int) + 1, up T (3 * i + 2) (10 * v + c - 48)) := by
  unfold seStep
  dsimp only
  rw [if_neg (by omega), if_neg (by omega), if_neg (by omega), if_pos ⟨h, h2⟩, show (3 * ((i : Int) + 1) - 1).toNat = 3 * i + 2 by omega, e]
theorem se_5c {i st : Int} {T : Nat → Int} (h1 : 6 ≤ st) (h2 : st ≤ 7) (h3 : i < 6) : seStep (st, i, T) 44 = some (0, i, T) := by
  unfold seStep
  dsimp only
  rw [if_neg (by omega), if_neg (by omega), if_neg (by omega), if_neg (fun z => by have := z.1.1; omega), if_pos ⟨by omega, rfl, h3⟩]
theorem se_5n {i st c : Int} {T : Nat → Int} (h1 : 5 ≤ st) (h2 : st ≤ 7) (h3 : st < 7 → ¬ isDg c) (h4 : 5 < st → c ≠ 44 ∨ 6 ≤ i) : seStep (st, i, T) c = none := by
  unfold seStep
  dsimp only
  rw [if_neg (by omega), if_neg (by omega), if_neg (by omega), if_neg (fun z => h3 z.2 z.1), if_neg (fun z => by have := h4 z.1; omega)]
set_option maxHeartbeats 2000000 in
theorem s_readStand {sh : oS} {I : Nat → Nat → Int} {L : Nat → Nat → Int64} {Q : oQ} (hs : Sh sh) {h : Nat} (A : TA sh h) {pg : Nat → Int} {len c i : Nat} {s0 : seS} {T : Nat → Int} (hp : pgA I pg len c) (hr : rdAt seStep s0 pg c = some (0, (i : Int), T)) (hi : i < 6) (hC : seC I h i T)
    (k0 : ∀ J (c : Nat) (s : seS), FrT h I J → pgA J pg len c → rdEnd seStep s0 pg len c s → s.1 ≤ 5 → Q (some (vI 0)) (sh, J, L))
    (k1 : ∀ J (c : Nat) (st : Int) (T2 : Nat → Int), FrT h I J → pgA J pg len c → rdAt seStep s0 pg c = some (st, (i : Int) + 1, T2) → 6 ≤ st ∧ st ≤ 7 → (st < 7 → ¬ isDg (lkP pg len c)) → seC J h (i + 1) T2 → Q (some (vI 1)) (sh, J, L)) : T_X10_readStand [vR h, vR 1, vI (i : Int)] (sh, I, L) Q := by
  refine And.intro (Nat.le_of_ble_eq_true rfl) (fun K hK => ?_)
  obtain ⟨M, hh⟩ := id A
  have fin0 : ∀ J (c : Nat) (s : seS), FrT h I J → pgA J pg len c → rdEnd seStep s0 pg len c s → s.1 ≤ 5 → K 63 [none, none, none] [] (sh, J, L) (0, 0) := fun J c s a1 a2 a3 a4 => B_X10_readStand_63 hK (k := k0 J c s a1 a2 a3 a4)
  refine B_X10_readStand_0 hK hs (Ah0 := M) (k := ?_)
  refine s_digit hs hp (by decide) (by decide) (fun d1 d2 d3 d4 => ?_) (fun d => ?_)
  rotate_left
  · refine B_X10_readStand_12 hK (ks0 := M.2.2.2.2.1.1) (b12 := by rw [M.2.2.2.2.1.2]; omega) (Ah0 := M) (b18 := by omega) (n19 := by rw [uA]; decide) (kt := fun _ => ?_) (kf := fun z => absurd (by rw [uA]; decide) z)
    refine B_X10_readStand_31 hK (k := ?_)
    exact k0 _ c _ (Fr.rf.u (h + 1) _ _ (by simp)) (hp.u (by omega) (by omega)) (rd_no hr hp.2.2.2.1 (fun _ => se_0n (fun z => d (by omega)))) (by dsimp only; omega)
  have g := rd_go hr d3 rfl
  generalize lkP pg len c = x at *
  rw [se_0 (by omega)] at g
  refine B_X10_readStand_12 hK (ks0 := M.2.2.2.2.1.1) (b12 := by rw [M.2.2.2.2.1.2]; omega) (Ah0 := M) (b18 := by omega) (n19 := by rw [uA]; omega) (kt := fun z => absurd z (by rw [uA]; omega)) (kf := fun _ => ?_)
  rw [Int.toNat_natCast]
  have F1 : FrT h I (u2 (u2 I 1 2 (I 1 2 + 1)) (h + 1) i (x - 48)) := (Fr.rf.u 1 2 _ (by simp)).u (h + 1) _ _ (by simp)
  have hp1 : pgA (u2 (u2 I 1 2 (I 1 2 + 1)) (h + 1) i (x - 48)) pg len (c + 1) := d4.u (by omega) (by omega)
  have P1 : (∀ y, y < i → u2 (u2 I 1 2 (I 1 2 + 1)) (h + 1) i (x - 48) (h + 1) y = T (3 * y) ∧ u2 (u2 I 1 2 (I 1 2 + 1)) (h + 1) i (x - 48) (h + 2) y = T (3 * y + 1) ∧ u2 (u2 I 1 2 (I 1 2 + 1)) (h + 1) i (x - 48) (h + 3) y = T (3 * y + 2)) ∧ u2 (u2 I 1 2 (I 1 2 + 1)) (h + 1) i (x - 48) (h + 1) i = x - 48 := by
    refine ⟨fun y hy => ?_, uA⟩
    rw [uK (by omega), uN (by omega), uN (by omega), uN (by omega), uN (by omega), uN (by omega)]
    exact hC y hy
  generalize u2 (u2 I 1 2 (I 1 2 + 1)) (h + 1) i (x - 48) = J1 at *
  refine B_X10_readStand_22 hK hs (k := ?_)
  refine s_take hs hp1 (by decide) (fun t1 t2 t3 => ?_) (fun t => ?_)
  rotate_left
  · refine B_X10_readStand_28 hK (n28 := by decide) (kt := fun z => absurd rfl z) (kf := fun _ => ?_)
    refine B_X10_readStand_31 hK (k := ?_)
    exact k0 J1 (c + 1) _ F1 hp1 (rd_no g hp1.2.2.2.1 (fun _ => by rw [se_1, if_neg t])) (by dsimp only; omega)
  refine B_X10_readStand_28 hK (n28 := by decide) (kt := fun _ => ?_) (kf := fun z => absurd (by decide) z)
  have g2 := rd_go g t2 t1
  rw [se_1, if_pos rfl] at g2
  have F2 : FrT h I (u2 J1 1 2 (J1 1 2 + 1)) := F1.u 1 2 _ (by simp)
  have P2 : (∀ y, y < i → u2 J1 1 2 (J1 1 2 + 1) (h + 1) y = T (3 * y) ∧ u2 J1 1 2 (J1 1 2 + 1) (h + 2) y = T (3 * y + 1) ∧ u2 J1 1 2 (J1 1 2 + 1) (h + 3) y = T (3 * y + 2)) ∧ u2 J1 1 2 (J1 1 2 + 1) (h + 1) i = x - 48 := by
    refine ⟨fun y hy => ?_, ?_⟩
    · rw [uN (by omega), uN (by omega), uN (by omega)]
      exact P1.1 y hy
    · rw [uN (by omega)]
      exact P1.2
  generalize u2 J1 1 2 (J1 1 2 + 1) = J2 at *
  clear t1 t2
  refine B_X10_readStand_33 hK hs (Ah0 := M) (k := ?_)
  refine s_numR hs (n := 2) (fun d v => ((2 : Int) + (d : Int), (i : Int) + 1, up (up (up (up T (3 * i) (x - 48)) (3 * i + 1) 0) (3 * i + 2) 0) (3 * i + 1) v)) t3 g2 (by decide) (by decide) (fun ch z z2 => ?_) (fun d v ch z1 z2 z => ?_) (fun J3 c3 e3 v3 F3 hp3 r3 b1 b2 b3 b4 _ => ?_) (fun J3 F3 hp3 nd => ?_)
  · rw [se_2 (v := 0) (by decide) (by decide) z (by rw [up_ne (by omega), up_at]), show 10 * 0 + ch - 48 = ch - 48 by omega]
    rfl
  · rw [se_2 (v := v) (by omega) (by omega) z up_at, up_up]
    rfl
  rotate_left
  · refine B_X10_readStand_44 hK (ks0 := M.2.2.2.2.2.1.1) (b44 := by rw [M.2.2.2.2.2.1.2]; omega) (Ah0 := M) (b50 := by omega) (n51 := by rw [uA]; decide) (kt := fun _ => ?_) (kf := fun z => absurd (by rw [uA]; decide) z)
    exact fin0 _ _ _ ((F2.one F3).u (h + 2) _ _ (by simp)) (hp3.u (by omega) (by omega)) (rd_no g2 t3.2.2.2.1 (fun _ => se_2n (by decide) (by decide) (fun _ z => nd ⟨z, by have := z.1; omega⟩) (fun z => absurd z (by decide)))) (by dsimp only; omega)
  have v9 : v3 ≤ 99 := by
    have : e3 = 1 ∨ e3 = 2 := by omega
    rcases this with y | y <;> rw [y] at b3 <;> omega
  refine B_X10_readStand_44 hK (ks0 := M.2.2.2.2.2.1.1) (b44 := by rw [M.2.2.2.2.2.1.2]; omega) (Ah0 := M) (b50 := by omega) (n51 := by rw [uA]; omega) (kt := fun z => absurd z (by rw [uA]; omega)) (kf := fun _ => ?_)
  rw [Int.toNat_natCast]
  have F4 : FrT h I (u2 J3 (h + 2) i v3) := (F2.one F3).u (h + 2) _ _ (by simp)
  have hp4 : pgA (u2 J3 (h + 2) i v3) pg len c3 := hp3.u (by omega) (by omega)
  have P4 : (∀ y, y < i → u2 J3 (h + 2) i v3 (h + 1) y = T (3 * y) ∧ u2 J3 (h + 2) i v3 (h + 2) y = T (3 * y + 1) ∧ u2 J3 (h + 2) i v3 (h + 3) y = T (3 * y + 2)) ∧ u2 J3 (h + 2) i v3 (h + 1) i = x - 48 ∧ u2 J3 (h + 2) i v3 (h + 2) i = v3 := by
    refine ⟨fun y hy => ?_, ?_, uA⟩
    · rw [uN (by omega), uK (by omega), uN (by omega), F3 (h + 1) y (by simp) (by simp <;> omega), F3 (h + 2) y (by simp) (by simp), F3 (h + 3) y (by simp) (by simp)]
      exact P2.1 y hy
    · rw [uN (by omega), F3 (h + 1) i (by simp) (by simp <;> omega)]
      exact P2.2
  generalize u2 J3 (h + 2) i v3 = J4 at *
  refine B_X10_readStand_54 hK hs (k := ?_)
  refine s_take hs hp4 (by decide) (fun t1 t2 t5 => ?_) (fun t => ?_)
  rotate_left
  · refine B_X10_readStand_60 hK (n60 := by decide) (kt := fun z => absurd rfl z) (kf := fun _ => ?_)
    exact fin0 J4 c3 _ F4 hp4 (rd_no r3 hp4.2.2.2.1 (fun _ => se_2n (by omega) (by omega) (fun z => b4 (by omega)) (fun _ => t))) (by dsimp only; omega)
  refine B_X10_readStand_60 hK (n60 := by decide) (kt := fun _ => ?_) (kf := fun z => absurd (by decide) z)
  have g5 := rd_go r3 t2 t1
  rw [se_2m (by omega) (by omega)] at g5
  have F5 : FrT h I (u2 J4 1 2 (J4 1 2 + 1)) := F4.u 1 2 _ (by simp)
  have P5 : (∀ y, y < i → u2 J4 1 2 (J4 1 2 + 1) (h + 1) y = T (3 * y) ∧ u2 J4 1 2 (J4 1 2 + 1) (h + 2) y = T (3 * y + 1) ∧ u2 J4 1 2 (J4 1 2 + 1) (h + 3) y = T (3 * y + 2)) ∧ u2 J4 1 2 (J4 1 2 + 1) (h + 1) i = x - 48 ∧ u2 J4 1 2 (J4 1 2 + 1) (h + 2) i = v3 := by
    refine ⟨fun y hy => ?_, ?_, ?_⟩
    · rw [uN (by omega), uN (by omega), uN (by omega)]
      exact P4.1 y hy
    · rw [uN (by omega)]
      exact P4.2.1
    · rw [uN (by omega)]
      exact P4.2.2
  generalize u2 J4 1 2 (J4 1 2 + 1) = J5 at *
  clear t1 t2
  refine B_X10_readStand_65 hK hs (Ah0 := M) (k := ?_)
  refine s_numR hs (n := 2) (fun d v => ((5 : Int) + (d : Int), (i : Int) + 1, up (up (up (up (up T (3 * i) (x - 48)) (3 * i + 1) 0) (3 * i + 2) 0) (3 * i + 1) v3) (3 * i + 2) v)) t5 g5 (by decide) (by decide) (fun ch z z2 => ?_) (fun d v ch z1 z2 z => ?_) (fun J6 c6 e6 v6 F6 hp6 r6 a1 a2 a3 a4 _ => ?_) (fun J6 F6 hp6 nd => ?_)
  · rw [se_5 (v := 0) (by decide) (by decide) z (by rw [up_ne (by omega), up_at]), show 10 * 0 + ch - 48 = ch - 48 by omega]
    rfl
  · rw [se_5 (v := v) (by omega) (by omega) z up_at, up_up]
    rfl
  rotate_left
  · refine B_X10_readStand_76 hK (ks0 := M.2.2.2.2.2.2.1) (b76 := by rw [M.2.2.2.2.2.2.2]; omega) (Ah0 := M) (b82 := by omega) (n83 := by rw [uA]; decide) (kt := fun _ => ?_) (kf := fun z => absurd (by rw [uA]; decide) z)
    refine B_X10_readStand_90 hK (k := ?_)
    refine B_X10_readStand_91 hK (o91 := Or.inl rfl) (k := ?_)
    exact k0 _ _ _ ((F5.one F6).u (h + 3) _ _ (by simp)) (hp6.u (by omega) (by omega)) (rd_no g5 t5.2.2.2.1 (fun _ => se_5n (by decide) (by decide) (fun _ z => nd ⟨z, by have := z.1; omega⟩) (fun z => absurd z (by decide)))) (by dsimp only; omega)
  have w9 : v6 ≤ 99 := by
    have : e6 = 1 ∨ e6 = 2 := by omega
    rcases this with y | y <;> rw [y] at a3 <;> omega
  refine B_X10_readStand_76 hK (ks0 := M.2.2.2.2.2.2.1) (b76 := by rw [M.2.2.2.2.2.2.2]; omega) (Ah0 := M) (b82 := by omega) (n83 := by rw [uA]; omega) (kt := fun z => absurd z (by rw [uA]; omega)) (kf := fun _ => ?_)
  rw [Int.toNat_natCast]
  refine B_X10_readStand_86 hK (k := ?_)
  refine B_X10_readStand_91 hK (o91 := Or.inr rfl) (k := ?_)
  refine k1 _ c6 _ _ ((F5.one F6).u (h + 3) _ _ (by simp)) (hp6.u (by omega) (by omega)) r6 (by omega) (fun z => a4 (by omega)) (fun y hy => ?_)
  rw [uN (by omega), uN (by omega), F6 (h + 1) y (by simp) (by simp <;> omega), F6 (h + 2) y (by simp) (by simp)]
  by_cases e : y = i
  · subst e
    rw [uA, P5.2.1, P5.2.2, up_at]
    rw [up_ne (by omega), up_ne (by omega), up_ne (by omega), up_ne (by omega), up_at, up_ne (by omega), up_at]
    exact ⟨rfl, rfl, rfl⟩
  · rw [uK e, F6 (h + 3) y (by simp) (by simp)]
    have q := P5.1 y (by omega)
    rw [q.1, q.2.1, q.2.2]
    refine ⟨?_, ?_, ?_⟩ <;> rw [up_ne (by omega), up_ne (by omega), up_ne (by omega), up_ne (by omega), up_ne (by omega)]
def seIs (J : Nat → Nat → Int) (h : Nat) (s : seS) : Prop := J h 5 = s.2.1 ∧ ∀ x : Nat, (x : Int) < s.2.1 → J (h + 1) x = s.2.2 (3 * x) ∧ J (h + 2) x = s.2.2 (3 * x + 1) ∧ J (h + 3) x = s.2.2 (3 * x + 2)
set_option maxHeartbeats 2000000 in
theorem s_rdTold {sh : oS} {I : Nat → Nat → Int} {L : Nat → Nat → Int64} {Q : oQ} (hs : Sh sh) {h : Nat} (A : TA sh h) {pg : Nat → Int} {len : Nat} {s0 : seS} {T0 : Nat → Int} (hB : pgB I pg len) (h0 : s0 = (0, 0, T0))
    (k : ∀ J (n : Nat) (s : seS) (r : Int), FrH h I J → J h 0 = I h 0 → J h 1 = I h 1 → J 1 2 = (n : Int) → rdEnd seStep s0 pg len n s → ((r = 1 ∧ (n = len ∧ seE s) ∧ seIs J h s) ∨ (r = 0 ∧ ¬ (n = len ∧ seE s))) → Q (some (vI r)) (sh, J, L)) : T_X10_read [vR h, vR 1] (sh, I, L) Q := by
  refine And.intro (Nat.le_of_ble_eq_true rfl) (fun K hK => ?_)
  obtain ⟨M, hh⟩ := id A
  refine B_X10_read_0 hK hs (Ah0 := M) (k := ?_)
  have fin : ∀ (J : Nat → Nat → Int) (c i : Nat) (st : Int) (T : Nat → Int), FrH h I J → (J h 0 = I h 0 ∧ J h 1 = I h 1) → pgA J pg len c → rdAt seStep s0 pg c = some (st, (i : Int), T) → 6 ≤ st ∧ st ≤ 7 → (st < 7 → ¬ isDg (lkP pg len c)) → (lkP pg len c ≠ 44 ∨ 6 ≤ i) → J h 5 = (i : Int) → seC J h i T → K 58 [none, some (vR 1), none] [] (sh, J, L) (0, 0) := by
    intro J c i st T FJ ek hp hr hst g1 g2 h5 hC
    refine B_X10_read_58 hK hs (k := ?_)
    refine s_atEnd hs hp (fun r hr2 => ?_)
    refine B_X10_read_62 hK (o62 := by omega) (k := ?_)
    have hE := rd_no hr hp.2.2.2.1 (fun _ => se_5n (by omega) hst.2 g1 (fun _ => by omega))
    refine k J c _ r FJ ek.1 ek.2 hp.2.1 hE ?_
    rcases hr2 with ⟨e, e2⟩ | ⟨e, e2⟩
    · refine Or.inl ⟨e, ⟨e2, by unfold seE; dsimp only; omega⟩, h5, fun x hx => ?_⟩
      exact hC x (by dsimp only at hx; omega)
    · exact Or.inr ⟨e, fun z => by have := z.1; omega⟩
  have lp : ∀ (d i : Nat) (J : Nat → Nat → Int) (c : Nat) (st : Int) (T : Nat → Int), i + d = 6 → FrH h I J → (J h 0 = I h 0 ∧ J h 1 = I h 1) → pgA J pg len c → rdAt seStep s0 pg c = some (st, (i : Int), T) → (i = 0 → st = 0) → (1 ≤ i → (6 ≤ st ∧ st ≤ 7) ∧ (st < 7 → ¬ isDg (lkP pg len c))) → J h 5 = (i : Int) → seC J h i T → K 12 [some (vR h), some (vR 1), some (vI (i : Int))] [] (sh, J, L) (0, 0) := by
    intro d
    induction d with
    | zero =>
      intro i J c st T hd FJ ek hp hr e0 e1 h5 hC
      refine B_X10_read_12 hK (n15a := by omega) (kt := fun _ => ?_) (kf := fun z => absurd (by omega) z)
      obtain ⟨q1, q2⟩ := e1 (by omega)
      exact fin J c i st T FJ ek hp hr q1 q2 (Or.inr (by omega)) h5 hC
    | succ d ih =>
      intro i J c st T hd FJ ek hp hr e0 e1 h5 hC
      refine B_X10_read_12 hK (n15a := by omega) (kt := fun z => absurd z (by omega)) (kf := fun _ => ?_)
      have one : ∀ (J : Nat → Nat → Int) (c : Nat), FrH h I J → (J h 0 = I h 0 ∧ J h 1 = I h 1) → pgA J pg len c → rdAt seStep s0 pg c = some (0, (i : Int), T) → seC J h i T → K 34 [some (vR h), some (vR 1), some (vI (i : Int))] [] (sh, J, L) (0, 0) := by
        intro J c FJ ek hp hr hC
        refine B_X10_read_34 hK (Ah0 := M) (k := ?_)
        refine s_readStand hs A hp hr (by omega) hC (fun J2 c2 s2 F2 hp2 hE2 hn2 => ?_) (fun J2 c2 st2 T2 F2 hp2 hr2 hst2 g2 hC2 => ?_)
        · refine B_X10_read_40 hK (n40 := by decide) (kt := fun z => absurd rfl z) (kf := fun _ => ?_)
          refine B_X10_read_43 hK (k := ?_)
          exact k J2 c2 s2 0 (FJ.tr F2 (by simp) (by simp) (by simp) (by simp)) (by rw [F2 h 0 (by simp) (by simp <;> omega)]; exact ek.1) (by rw [F2 h 1 (by simp) (by simp <;> omega)]; exact ek.2) hp2.2.1 hE2 (Or.inr ⟨rfl, fun z => by have := z.2; unfold seE at this; omega⟩)
        · refine B_X10_read_40 hK (n40 := by decide) (kt := fun _ => ?_) (kf := fun z => absurd (by decide) z)
          refine B_X10_read_45 hK (Ah0 := M) (k := ?_)
          refine ih (i + 1) _ c2 st2 T2 (by omega) ((FJ.tr F2 (by simp) (by simp) (by simp) (by simp) : FrH h I J2).u h 5 _ (by simp)) ⟨by rw [uK (by decide), F2 h 0 (by simp) (by simp <;> omega)]; exact ek.1, by rw [uK (by decide), F2 h 1 (by simp) (by simp <;> omega)]; exact ek.2⟩ (hp2.u (by omega) (by omega)) hr2 (fun z => absurd z (by omega)) (fun _ => ⟨hst2, g2⟩) uA (fun x hx => ?_)
          rw [uN (by omega), uN (by omega), uN (by omega)]
          exact hC2 x hx
      refine B_X10_read_18 hK (n19 := by omega) (kt := fun z => ?_) (kf := fun z => ?_)
      · have := e0 (by omega)
        subst this
        exact one J c FJ ek hp hr hC
      · obtain ⟨q1, q2⟩ := e1 (by omega)
        refine B_X10_read_22 hK hs (k := ?_)
        refine s_take hs hp (by decide) (fun t1 t2 t3 => ?_) (fun t => ?_)
        · refine B_X10_read_28 hK (n28 := by decide) (kt := fun _ => ?_) (kf := fun y => absurd (by decide) y)
          have g := rd_go hr t2 t1
          rw [se_5c q1.1 q1.2 (by omega)] at g
          exact one _ (c + 1) (FJ.u 1 2 _ (by simp)) ⟨by rw [uN (by omega)]; exact ek.1, by rw [uN (by omega)]; exact ek.2⟩ t3 g (hC.fr (by omega) (Fr.rf.u 1 2 _ (by simp)))
        · refine B_X10_read_28 hK (n28 := by decide) (kt := fun y => absurd rfl y) (kf := fun _ => ?_)
          refine B_X10_read_31 hK (k := ?_)
          exact fin J c i st T FJ ek hp hr q1 q2 (Or.inl t) h5 hC
  refine lp 6 0 _ 0 0 T0 (by omega) ((Fr.rf.u 1 2 0 (by simp)).u h 5 0 (by simp)) ⟨by rw [uK (by decide), uN (by omega)], by rw [uK (by decide), uN (by omega)]⟩ (hB.at0.u (by omega) (by omega)) (by rw [h0]; rfl) (fun _ => rfl) (fun z => absurd z (by omega)) uA (fun x hx => absurd hx (by omega))
