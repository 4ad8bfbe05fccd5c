/-! the class's net: edges by what they leave -/
def lst (fr : Nat → Nat) (n : Nat) : Nat → Int
  | 0 => -1
  | k + 1 => if fr k = n then (k : Int) else lst fr n k
theorem lst_bd (fr : Nat → Nat) (n : Nat) : ∀ k, -1 ≤ lst fr n k ∧ lst fr n k < k
  | 0 => by simp only [lst]; omega
  | k + 1 => by
    have := lst_bd fr n k
    unfold lst
    split <;> omega
theorem lst_no (fr : Nat → Nat) (n : Nat) : ∀ k, lst fr n k < 0 → ∀ e, e < k → fr e ≠ n
  | 0, _, e, he => absurd he (by omega)
  | k + 1, h, e, he => by
    unfold lst at h
    by_cases q : fr k = n
    · rw [if_pos q] at h
      omega
    · rw [if_neg q] at h
      by_cases z : e = k
      · rw [z]; exact q
      · exact lst_no fr n k h e (by omega)
theorem lst_is (fr : Nat → Nat) (n : Nat) : ∀ (k e : Nat), lst fr n k = (e : Int) → e < k ∧ fr e = n ∧ ∀ x : Nat, e < x → x < k → fr x ≠ n
  | 0, e, h => by simp only [lst] at h; omega
  | k + 1, e, h => by
    unfold lst at h
    by_cases q : fr k = n
    · rw [if_pos q] at h
      have : k = e := by omega
      subst this
      exact ⟨by omega, q, fun x h1 h2 => absurd h1 (by omega)⟩
    · rw [if_neg q] at h
      obtain ⟨a, b, c⟩ := lst_is fr n k e h
      refine ⟨by omega, b, fun x h1 h2 => ?_⟩
      by_cases z : x = k
      · rw [z]; exact q
      · exact c x h1 (by omega)
theorem lst_cg {fr fr' : Nat → Nat} (n : Nat) : ∀ k, (∀ e, e < k → fr e = fr' e) → lst fr n k = lst fr' n k
  | 0, _ => rfl
  | k + 1, h => by
    unfold lst
    rw [h k (by omega), lst_cg n k (fun e he => h e (by omega))]
theorem fXor1 {e : Nat} (h : e < 1000000) : fXor (e : Int) 1 = (mate e : Int) := by
  have x1 : (e ^^^ 1) / 2 = e / 2 := by rw [Nat.xor_div_two]; simp
  have x2 : ((e ^^^ 1) % 2 = 1) ↔ ¬ ((e % 2 = 1) ↔ (1 % 2 = 1)) := Nat.xor_mod_two_eq_one
  have x3 : e ^^^ 1 = mate e := by
    unfold mate
    by_cases q : e % 2 = 0
    · rw [if_pos q]
      have := x2.2 (by omega)
      omega
    · rw [if_neg q]
      have : ¬ (e ^^^ 1) % 2 = 1 := fun z => (x2.1 z) (by omega)
      omega
  have b : mate e < 2000000 := by unfold mate; split <;> omega
  have e1 : (Int32.ofInt (e : Int)).toBitVec = BitVec.ofNat 32 e := by
    rw [Int32.toBitVec_ofInt, BitVec.ofInt_natCast]
  have e2 : (Int32.ofInt 1).toBitVec = BitVec.ofNat 32 1 := rfl
  have e3 : (Int32.ofInt (e : Int) ^^^ Int32.ofInt 1).toBitVec.toNat = mate e := by
    rw [Int32.toBitVec_xor, e1, e2, BitVec.toNat_xor, BitVec.toNat_ofNat, BitVec.toNat_ofNat, Nat.mod_eq_of_lt (by omega), Nat.mod_eq_of_lt (by decide), x3]
  unfold fXor
  show (Int32.ofInt (e : Int) ^^^ Int32.ofInt 1).toBitVec.toInt = _
  rw [BitVec.toInt_eq_toNat_of_lt (by rw [e3]; omega), e3]
/-- a net as it was laid: m edges each with its way back, N nodes -/
def nNet (I : Nat → Nat → Int) (m N : Nat) (u v : Nat → Nat) (w : Nat → Int) : Prop := I 31 10 = 2 * (m : Int) ∧ 2 * m ≤ 2548 ∧ I 31 9 = (N : Int) ∧ N ≤ 324 ∧ (∀ e, e < 2 * m → I 32 e = (eT u v e : Int) ∧ I 34 e = eC w e ∧ I 35 e = lst (eF u v) (eF u v e) e) ∧ ∀ n, n < 324 → I 36 n = lst (eF u v) n (2 * m)
theorem nNet.fr {I J : Nat → Nat → Int} {m N : Nat} {u v : Nat → Nat} {w : Nat → Int} (h : nNet I m N u v w) (e1 : J 31 10 = I 31 10) (e2 : J 31 9 = I 31 9) (e3 : J 32 = I 32) (e4 : J 34 = I 34) (e5 : J 35 = I 35) (e6 : J 36 = I 36) : nNet J m N u v w := by
  unfold nNet
  rw [e1, e2, e3, e4, e5, e6]
  exact h
def ex {α : Type} (f : Nat → α) (m : Nat) (a : α) : Nat → α := fun i => if i = m then a else f i
theorem ex_at {α : Type} {f : Nat → α} {m : Nat} {a : α} : ex f m a m = a := if_pos rfl
theorem ex_ne {α : Type} {f : Nat → α} {m i : Nat} {a : α} (h : i ≠ m) : ex f m a i = f i := if_neg h
theorem ex_eF {u v : Nat → Nat} {m a b e : Nat} : eF (ex u m a) (ex v m b) e = if e = 2 * m then a else if e = 2 * m + 1 then b else eF u v e := by
  unfold eF ex
  by_cases q : e % 2 = 0
  · rw [if_pos q, if_pos q]
    by_cases z : e = 2 * m
    · rw [if_pos (by omega), if_pos z]
    · rw [if_neg (by omega), if_neg z, if_neg (by omega)]
  · rw [if_neg q, if_neg q]
    by_cases z : e = 2 * m + 1
    · rw [if_pos (by omega), if_neg (by omega), if_pos z]
    · rw [if_neg (by omega), if_neg (by omega), if_neg z]
theorem ex_eT {u v : Nat → Nat} {m a b e : Nat} : eT (ex u m a) (ex v m b) e = if e = 2 * m then b else if e = 2 * m + 1 then a else eT u v e := by
  unfold eT ex
  by_cases q : e % 2 = 0
  · rw [if_pos q, if_pos q]
    by_cases z : e = 2 * m
    · rw [if_pos (by omega), if_pos z]
    · rw [if_neg (by omega), if_neg z, if_neg (by omega)]
  · rw [if_neg q, if_neg q]
    by_cases z : e = 2 * m + 1
    · rw [if_pos (by omega), if_neg (by omega), if_pos z]
    · rw [if_neg (by omega), if_neg (by omega), if_neg z]
theorem ex_eC {w : Nat → Int} {m e : Nat} {c : Int} : eC (ex w m c) e = if e = 2 * m then c else if e = 2 * m + 1 then -c else eC w e := by
  unfold eC ex
  by_cases q : e % 2 = 0
  · rw [if_pos q, if_pos q]
    by_cases z : e = 2 * m
    · rw [if_pos (by omega), if_pos z]
    · rw [if_neg (by omega), if_neg z, if_neg (by omega)]
  · rw [if_neg q, if_neg q]
    by_cases z : e = 2 * m + 1
    · rw [if_pos (by omega), if_neg (by omega), if_pos z]
    · rw [if_neg (by omega), if_neg (by omega), if_neg z]
theorem ex_lst {u v : Nat → Nat} {m a b n : Nat} : lst (eF (ex u m a) (ex v m b)) n (2 * m) = lst (eF u v) n (2 * m) ∧ lst (eF (ex u m a) (ex v m b)) n (2 * m + 1) = (if a = n then ((2 * m : Nat) : Int) else lst (eF u v) n (2 * m)) ∧ lst (eF (ex u m a) (ex v m b)) n (2 * (m + 1)) = (if b = n then ((2 * m + 1 : Nat) : Int) else if a = n then ((2 * m : Nat) : Int) else lst (eF u v) n (2 * m)) := by
  have e0 : lst (eF (ex u m a) (ex v m b)) n (2 * m) = lst (eF u v) n (2 * m) := lst_cg n _ (fun e he => by rw [ex_eF, if_neg (by omega), if_neg (by omega)])
  have e1 : lst (eF (ex u m a) (ex v m b)) n (2 * m + 1) = (if a = n then ((2 * m : Nat) : Int) else lst (eF u v) n (2 * m)) := by
    show (if eF (ex u m a) (ex v m b) (2 * m) = n then _ else _) = _
    have e2 : eF (ex u m a) (ex v m b) (2 * m) = a := by rw [ex_eF, if_pos rfl]
    rw [e2, e0]
  refine ⟨e0, e1, ?_⟩
  rw [show 2 * (m + 1) = 2 * m + 1 + 1 by omega]
  show (if eF (ex u m a) (ex v m b) (2 * m + 1) = n then _ else _) = _
  have e2 : eF (ex u m a) (ex v m b) (2 * m + 1) = b := by rw [ex_eF, if_neg (by omega), if_pos rfl]
  rw [e2, e1]
theorem nNet_0 {I : Nat → Nat → Int} {N : Nat} {u v : Nat → Nat} {w : Nat → Int} (h1 : I 31 10 = 0) (h2 : I 31 9 = (N : Int)) (hN : N ≤ 324) (h3 : ∀ n, n < 324 → I 36 n = -1) : nNet I 0 N u v w := ⟨by rw [h1]; rfl, by decide, h2, hN, fun e he => absurd he (by omega), fun n hn => by rw [h3 n hn]; rfl⟩
theorem s_cclear {sh : oS} {I : Nat → Nat → Int} {L : Nat → Nat → Int64} {Q : oQ} (hs : Sh sh) {pr : Int} (hpr : pr = 0 ∨ pr = 1) (k : ∀ J, Fr [36] [(31, 9), (31, 10), (31, 11), (31, 12), (31, 13)] I J → (∀ u v w, nNet J 0 20 u v w) → J 31 11 = 0 → J 31 12 = 0 → J 31 13 = pr → Q none (sh, J, L)) : T_X7_clear [vR 31, vI 20, vI pr] (sh, I, L) Q := by
  refine And.intro (Nat.le_of_ble_eq_true rfl) (fun K hK => ?_)
  refine B_X7_clear_0 hK hs (n5a := by decide) (o13 := hpr) (k := ?_)
  have e : fMin 20 324 = 20 := by decide
  rw [e]
  refine s_fill (n := 324) (sk_36 hs) (sl_36 hs) (by decide) (fun J F q => ?_)
  refine B_X7_clear_39 hK (k := ?_)
  have g : ∀ x, J 31 x = (u2 (u2 (u2 (u2 (u2 I 31 9 20) 31 13 pr) 31 10 0) 31 11 0) 31 12 0) 31 x := fun x => F 31 x (by simp) (by simp)
  refine k J ?_ (fun u v w => nNet_0 ?_ ?_ (by decide) q) ?_ ?_ ?_
  · have F0 : Fr [36] [(31, 9), (31, 10), (31, 11), (31, 12), (31, 13)] I (u2 (u2 (u2 (u2 (u2 I 31 9 20) 31 13 pr) 31 10 0) 31 11 0) 31 12 0) := ((((Fr.rf.u 31 9 20 (by simp)).u 31 13 pr (by simp)).u 31 10 0 (by simp)).u 31 11 0 (by simp)).u 31 12 0 (by simp)
    exact F0.tr F (by simp) (by simp) (by simp) (by simp)
  · rw [g, uK (by decide), uK (by decide), uA]
  · rw [g, uK (by decide), uK (by decide), uK (by decide), uK (by decide), uA]; rfl
  · rw [g, uK (by decide), uA]
  · rw [g, uA]
  · rw [g, uK (by decide), uK (by decide), uK (by decide), uA]
theorem s_addNode {sh : oS} {I : Nat → Nat → Int} {L : Nat → Nat → Int64} {Q : oQ} (hs : Sh sh) {m N : Nat} {u v : Nat → Nat} {w : Nat → Int} (h : nNet I m N u v w) (hN : N < 324) (k : nNet (u2 I 31 9 ((N + 1 : Nat) : Int)) m (N + 1) u v w → Q (some (vI (N : Int))) (sh, u2 I 31 9 ((N + 1 : Nat) : Int), L)) : T_X7_addNode [vR 31] (sh, I, L) Q := by
  refine And.intro (Nat.le_of_ble_eq_true rfl) (fun K hK => ?_)
  obtain ⟨h1, h2, h3, h4, h5, h6⟩ := id h
  refine B_X7_addNode_0 hK hs (n7a := by omega) (kt := fun z => absurd z (by omega)) (kf := fun _ => ?_)
  refine B_X7_addNode_10 hK hs (k := ?_)
  refine B_X7_addNode_20 hK hs (k := ?_)
  rw [uA, show I 31 9 + 1 = ((N + 1 : Nat) : Int) by omega, show ((N + 1 : Nat) : Int) - 1 = (N : Int) by omega]
  refine k ⟨by rw [uK (by decide)]; exact h1, h2, uA, by omega, fun e he => ?_, fun n hn => ?_⟩
  · rw [uN (by decide), uN (by decide), uN (by decide)]
    exact h5 e he
  · rw [uN (by decide)]
    exact h6 n hn
abbrev FrE (I J : Nat → Nat → Int) : Prop := Fr [32, 33, 34, 35, 36] [(31, 10)] I J
set_option maxHeartbeats 1000000 in
theorem s_cedge {sh : oS} {I : Nat → Nat → Int} {L : Nat → Nat → Int64} {Q : oQ} (hs : Sh sh) {m N a b : Nat} {u v : Nat → Nat} {w : Nat → Int} {r c pr : Int} (h : nNet I m N u v w) (hm : m < 1274) (ha : a < 324) (hb : b < 324) (hpr : (I 31 13 = 1 ∧ pr = c) ∨ (I 31 13 = 0 ∧ pr = 0))
    (k : ∀ J, FrE I J → nNet J (m + 1) N (ex u m a) (ex v m b) (ex w m pr) → J 33 = up (up (I 33) (2 * m) r) (2 * m + 1) 0 → Q none (sh, J, L)) : T_X7_edge [vR 31, vI (a : Int), vI (b : Int), vI r, vI c] (sh, I, L) Q := by
  refine And.intro (Nat.le_of_ble_eq_true rfl) (fun K hK => ?_)
  obtain ⟨h1, h2, h3, h4, h5, h6⟩ := id h
  refine B_X7_edge_0 hK hs (n9a := by omega) (kt := fun _ => ?_) (kf := fun z => absurd (by omega) z)
  have tl : K 26 [some (vR 31), some (vI (a : Int)), some (vI (b : Int)), some (vI r), none, none] [vI pr] (sh, I, L) (0, 0) := by
    refine B_X7_edge_26 hK hs (b37 := by omega) (b72 := by omega) (b103 := by omega) (b139 := by omega) (k := ?_)
    have t0 : (I 31 10).toNat = 2 * m := by omega
    have t1 : (I 31 10 + 1).toNat = 2 * m + 1 := by omega
    rw [t0, t1, Int.toNat_natCast, Int.toNat_natCast]
    have e35 : ((u2 (u2 (u2 (u2 (u2 I 32 (2 * m) (b : Int)) 33 (2 * m) r) 34 (2 * m) pr) 35 (2 * m) (I 36 a)) 36 a (I 31 10)) 36 b) = (if b = a then I 31 10 else I 36 b) := by
      by_cases z : b = a
      · rw [if_pos z, z, uA]
      · rw [if_neg z, uK z, uN (by decide), uN (by decide), uN (by decide), uN (by decide)]
    rw [e35]
    refine k _ ?_ ⟨?_, by omega, ?_, h4, fun e he => ⟨?_, ?_, ?_⟩, fun n hn => ?_⟩ ?_
    · exact (((((((((((Fr.rf.u 32 _ _ (by simp)).u 33 _ _ (by simp)).u 34 _ _ (by simp)).u 35 _ _ (by simp)).u 36 _ _ (by simp)).u 31 10 _ (by simp)).u 32 _ _ (by simp)).u 33 _ _ (by simp)).u 34 _ _ (by simp)).u 35 _ _ (by simp)).u 36 _ _ (by simp)).u 31 10 _ (by simp)
    · rw [uA, h1]; omega
    · rw [uK (by decide), uN (by decide), uN (by decide), uN (by decide), uN (by decide), uN (by decide), uK (by decide), uN (by decide), uN (by decide), uN (by decide), uN (by decide), uN (by decide)]
      exact h3
    · rw [u2_oth (by decide), u2_oth (by decide), u2_oth (by decide), u2_oth (by decide), u2_oth (by decide), u2_row, u2_oth (by decide), u2_oth (by decide), u2_oth (by decide), u2_oth (by decide), u2_oth (by decide), u2_row, ex_eT]
      by_cases z : e = 2 * m
      · rw [if_pos z, up_ne (by omega), z, up_at]
      · rw [if_neg z]
        by_cases z2 : e = 2 * m + 1
        · rw [if_pos z2, z2, up_at]
        · rw [if_neg z2, up_ne z2, up_ne z]
          exact (h5 e (by omega)).1
    · rw [u2_oth (by decide), u2_oth (by decide), u2_oth (by decide), u2_row, u2_oth (by decide), u2_oth (by decide), u2_oth (by decide), u2_oth (by decide), u2_oth (by decide), u2_row, u2_oth (by decide), u2_oth (by decide), ex_eC]
      by_cases z : e = 2 * m
      · rw [if_pos z, up_ne (by omega), z, up_at]
      · rw [if_neg z]
        by_cases z2 : e = 2 * m + 1
        · rw [if_pos z2, z2, up_at]
        · rw [if_neg z2, up_ne z2, up_ne z]
          exact (h5 e (by omega)).2.1
    · rw [u2_oth (by decide), u2_oth (by decide), u2_row, u2_oth (by decide), u2_oth (by decide), u2_oth (by decide), u2_oth (by decide), u2_oth (by decide), u2_row, u2_oth (by decide), u2_oth (by decide), u2_oth (by decide)]
      by_cases z : e = 2 * m
      · subst z
        rw [up_ne (by omega), up_at, ex_eF, if_pos rfl, ex_lst.1]
        exact h6 a ha
      · by_cases z2 : e = 2 * m + 1
        · subst z2
          rw [up_at, ex_eF, if_neg z, if_pos rfl, ex_lst.2.1, h6 b hb, h1]
          by_cases z3 : b = a
          · rw [if_pos z3, if_pos z3.symm]; omega
          · rw [if_neg z3, if_neg (fun y => z3 y.symm)]
        · rw [up_ne z2, up_ne z, ex_eF, if_neg z, if_neg z2, (h5 e (by omega)).2.2]
          exact lst_cg _ _ (fun x hx => by rw [ex_eF, if_neg (by omega), if_neg (by omega)])
    · rw [u2_oth (by decide), u2_row, u2_oth (by decide), u2_oth (by decide), u2_oth (by decide), u2_oth (by decide), u2_oth (by decide), u2_row, u2_oth (by decide), u2_oth (by decide), u2_oth (by decide), u2_oth (by decide), ex_lst.2.2]
      by_cases z : n = b
      · rw [z, up_at, if_pos rfl, h1]; omega
      · rw [up_ne z, if_neg (fun y => z y.symm)]
        by_cases z2 : n = a
        · rw [z2, up_at, if_pos rfl, h1]; omega
        · rw [up_ne z2, if_neg (fun y => z2 y.symm)]
          exact h6 n hn
    · rw [u2_oth (by decide), u2_oth (by decide), u2_oth (by decide), u2_oth (by decide), u2_row, u2_oth (by decide), u2_oth (by decide), u2_oth (by decide), u2_oth (by decide), u2_oth (by decide), u2_row, u2_oth (by decide)]
  refine B_X7_edge_13 hK hs (n17 := by omega) (kt := fun z => ?_) (kf := fun z => ?_)
  · refine B_X7_edge_25 hK (k := ?_)
    have : pr = 0 := by omega
    rw [← this]
    exact tl
  · refine B_X7_edge_20 hK (k := ?_)
    have : pr = c := by omega
    rw [← this]
    exact tl
