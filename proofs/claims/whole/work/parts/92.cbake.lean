/-! the class: what is baked; numbers of its nodes -/
theorem bkc_succ {i : Nat} {pl fr to : Nat → Int} {p d bd so : Int} : bkc (i + 1) pl fr to p d bd so = bkc i pl fr to p d bd so + (if pl i = p ∧ fr i - so + bd ≤ d ∧ d ≤ to i then 1 else 0) := rfl
set_option maxHeartbeats 1000000 in
theorem s_countB {sh : oS} {I : Nat → Nat → Int} {L : Nat → Nat → Int64} {Q : oQ} (hs : Sh sh) {l : List stT} {P D bd so : Int} (hl : cLs I l) (hn : l.length ≤ 30) (ho : stOK P D l) (hP : P ≤ 8) (hD : D ≤ 10) (hbd : 0 ≤ bd ∧ bd ≤ 1000) (hso : 0 ≤ so ∧ so ≤ 9)
    (k : ∀ J, Fr [30] [] I J → (∀ j, j < 152 → J 30 j = bkc l.length (fun i => (stG l i).1) (fun i => (stG l i).2.1) (fun i => (stG l i).2.2) ((j / 19 : Nat) : Int) (((j % 19 : Nat) : Int) - 9) bd so) → Q none (sh, J, L)) : T_X2_countBaking [vR 24, vI bd, vI so] (sh, I, L) Q := by
  refine And.intro (Nat.le_of_ble_eq_true rfl) (fun K hK => ?_)
  refine B_X2_countBaking_0 hK hs (k := ?_)
  refine s_fill (n := 152) (sk_30 hs) (sl_30 hs) (by decide) (fun J0 F0 z0 => ?_)
  refine B_X2_countBaking_8 hK (k := ?_)
  have lp : ∀ (d i : Nat) (J : Nat → Nat → Int), i + d = l.length → Fr [30] [] I J → (∀ j, j < 152 → J 30 j = bkc i (fun i => (stG l i).1) (fun i => (stG l i).2.1) (fun i => (stG l i).2.2) ((j / 19 : Nat) : Int) (((j % 19 : Nat) : Int) - 9) bd so) → K 10 [some (vR 24), some (vI bd), some (vI so), some (vI (i : Int)), none, none, none, none] [] (sh, J, L) (0, 0) := by
    intro d
    induction d with
    | zero =>
      intro i J hi F q
      have e : J 25 3 = (l.length : Int) := by rw [F 25 3 (by decide) (by simp)]; exact hl.1
      refine B_X2_countBaking_10 hK hs (n18a := by omega) (n18b := by omega) (kt := fun _ => ?_) (kf := fun z => absurd (by omega) z)
      refine B_X2_countBaking_111 hK (k := k J F ?_)
      rw [← show i = l.length by omega]
      exact q
    | succ d ih =>
      intro i J hi F q
      have e : J 25 3 = (l.length : Int) := by rw [F 25 3 (by decide) (by simp)]; exact hl.1
      obtain ⟨a1, a2, a3⟩ := hl.2 i (by omega)
      have ok := ho _ (stG_m (show i < l.length by omega))
      have t0 : (i : Int).toNat = i := Int.toNat_natCast i
      have b1 : J 26 ((i : Int).toNat) = (stG l i).1 := by rw [t0, F 26 i (by decide) (by simp)]; exact a1
      have b2 : J 27 ((i : Int).toNat) = (stG l i).2.1 := by rw [t0, F 27 i (by decide) (by simp)]; exact a2
      have b3 : J 28 ((i : Int).toNat) = (stG l i).2.2 := by rw [t0, F 28 i (by decide) (by simp)]; exact a3
      refine B_X2_countBaking_10 hK hs (n18a := by omega) (n18b := by omega) (kt := fun z => absurd z (by omega)) (kf := fun _ => ?_)
      refine B_X2_countBaking_21 hK hs (b29 := by omega) (n53a := by rw [b2]; omega) (n69a := by rw [b3]; omega) (k := ?_)
      rw [b1, b2, b3]
      have fm : fMin (stG l i).2.2 9 = (stG l i).2.2 := by unfold fMin; rw [if_neg (by omega)]
      rw [fm]
      have fx : fMax ((stG l i).2.1 - so + bd) (-9) = (if (stG l i).2.1 - so + bd < -9 then -9 else (stG l i).2.1 - so + bd) := rfl
      rw [fx]
      generalize hf : (if (stG l i).2.1 - so + bd < -9 then -9 else (stG l i).2.1 - so + bd) = f at *
      have fb : -9 ≤ f ∧ f ≤ 2000 := by rw [← hf]; split <;> omega
      have inn : ∀ (e day : Nat) (J : Nat → Nat → Int), f + day + e = (stG l i).2.2 + 1 ∨ (e = 0 ∧ (stG l i).2.2 < f + day) → day ≤ 19 → Fr [30] [] I J → (∀ j, j < 152 → J 30 j = bkc i (fun i => (stG l i).1) (fun i => (stG l i).2.1) (fun i => (stG l i).2.2) ((j / 19 : Nat) : Int) (((j % 19 : Nat) : Int) - 9) bd so + (if (stG l i).1 = ((j / 19 : Nat) : Int) ∧ f ≤ ((j % 19 : Nat) : Int) - 9 ∧ ((j % 19 : Nat) : Int) - 9 < f + day ∧ ((j % 19 : Nat) : Int) - 9 ≤ (stG l i).2.2 then 1 else 0)) → K 78 [some (vR 24), some (vI bd), some (vI so), some (vI (i : Int)), some (vI ((stG l i).1 * 19 + 9)), none, some (vI (stG l i).2.2), some (vI (f + day))] [] (sh, J, L) (0, 0) := by
        intro e
        induction e with
        | zero =>
          intro day J he hd19 F q
          refine B_X2_countBaking_78 hK (n82a := by omega) (n82b := by omega) (kt := fun _ => ?_) (kf := fun z => absurd (by omega) z)
          refine B_X2_countBaking_105 hK (k := ?_)
          refine ih (i + 1) J (by omega) F (fun j hj => ?_)
          rw [q j hj, bkc_succ]
          congr 1
          by_cases c : (stG l i).1 = ((j / 19 : Nat) : Int) ∧ f ≤ ((j % 19 : Nat) : Int) - 9 ∧ ((j % 19 : Nat) : Int) - 9 < f + day ∧ ((j % 19 : Nat) : Int) - 9 ≤ (stG l i).2.2
          · rw [if_pos c, if_pos ⟨c.1, by split at hf <;> omega, c.2.2.2⟩]
          · rw [if_neg c, if_neg (fun y => c ⟨y.1, by split at hf <;> omega, by omega, y.2.2⟩)]
        | succ e ihe =>
          intro day J he hd19 F q
          have lt : f + day ≤ (stG l i).2.2 := by omega
          refine B_X2_countBaking_78 hK (n82a := by omega) (n82b := by omega) (kt := fun z => absurd z (by omega)) (kf := fun _ => ?_)
          refine B_X2_countBaking_85 hK hs (b95 := by omega) (k := ?_)
          rw [show f + (day : Int) + 1 = f + ((day + 1 : Nat) : Int) by omega]
          refine ihe (day + 1) _ (by omega) (by omega) (F.u 30 _ _ (by simp)) (fun j hj => ?_)
          by_cases c : j = ((stG l i).1 * 19 + 9 + (f + (day : Int))).toNat
          · have c1 : (stG l i).1 = ((j / 19 : Nat) : Int) := by omega
            have c2 : ((j % 19 : Nat) : Int) - 9 = f + day := by omega
            rw [← c, uA, q j hj, if_neg (by omega), if_pos ⟨c1, by omega, by omega, by omega⟩]
            omega
          · rw [uK c, q j hj]
            congr 1
            by_cases c3 : (stG l i).1 = ((j / 19 : Nat) : Int) ∧ f ≤ ((j % 19 : Nat) : Int) - 9 ∧ ((j % 19 : Nat) : Int) - 9 < f + day ∧ ((j % 19 : Nat) : Int) - 9 ≤ (stG l i).2.2
            · rw [if_pos c3, if_pos (by omega)]
            · rw [if_neg c3, if_neg (fun y => c3 ⟨y.1, y.2.1, by omega, y.2.2.2⟩)]
      have := inn ((stG l i).2.2 + 1 - f).toNat 0 J (by omega) (by omega) F (fun j hj => ?_)
      · rw [show f + ((0 : Nat) : Int) = f by omega] at this
        exact this
      · rw [q j hj, if_neg (by omega)]
        omega
  refine lp l.length 0 J0 (by omega) F0 (fun j hj => ?_)
  rw [z0 j hj]
  rfl
/-- the class's numbers of the nodes -/
def nuC (r : Nat → Int) (n : Nat) : Nat := if n < 20 then n else 20 + 2 * rk r ((n - 20) / 2) + (n - 20) % 2
theorem nuC_inj (r : Nat → Int) : ∀ a b, prN r a → prN r b → nuC r a = nuC r b → a = b := by
  intro a b ha hb e
  unfold nuC at e
  rcases Nat.lt_or_ge a 20 with qa | qa <;> rcases Nat.lt_or_ge b 20 with qb | qb
  · rw [if_pos qa, if_pos qb] at e
    exact e
  · rw [if_pos qa, if_neg (by omega)] at e
    omega
  · rw [if_neg (by omega), if_pos qb] at e
    omega
  · rw [if_neg (by omega), if_neg (by omega)] at e
    rcases ha with ha | ha
    · omega
    · rcases hb with hb | hb
      · omega
      · have := rk_inj r ha.2 hb.2 (by omega)
        omega
theorem rk_lt {r : Nat → Int} {i j : Nat} (h : i < j) (hi : 0 < r i) : rk r i < rk r j := by
  have h1 := rk_mono r (show i + 1 ≤ j by omega)
  simp only [rk, if_pos hi] at h1
  omega
theorem nuC_lt (r : Nat → Int) : ∀ a, prN r a → nuC r a < 20 + 2 * rk r 152 := by
  intro a ha
  unfold nuC
  rcases ha with ha | ha
  · rw [if_pos ha]; omega
  · split
    · omega
    · have := rk_lt (j := 152) (show (a - 20) / 2 < 152 by omega) ha.2
      omega
theorem nuc_in (r : Nat → Int) (j : Nat) : nuC r (20 + 2 * j) = 20 + 2 * rk r j ∧ nuC r (21 + 2 * j) = 21 + 2 * rk r j := by
  unfold nuC
  rw [if_neg (by omega), if_neg (by omega), show (20 + 2 * j - 20) / 2 = j by omega, show (21 + 2 * j - 20) / 2 = j by omega]
  omega
theorem nuc_sm (r : Nat → Int) {n : Nat} (h : n < 20) : nuC r n = n := if_pos h
/-- how many edges there are at most ahead of an oven -/
def bw (x : Nat) : Nat := if x < 9 then x + 1 else 19 - x
def cwN : Nat → Nat
  | 0 => 8
  | j + 1 => cwN j + 3 + bw (j % 19)
theorem cwN_mono {i j : Nat} (h : i ≤ j) : cwN i ≤ cwN j := by
  induction j with
  | zero => rw [show i = 0 by omega]; exact Nat.le_refl _
  | succ j ih =>
    rcases Nat.lt_or_ge i (j + 1) with q | q
    · have := ih (by omega)
      simp only [cwN]
      omega
    · rw [show i = j + 1 by omega]; exact Nat.le_refl _
theorem cwN_152 : cwN 152 = 1264 := by decide +kernel
/-- a net by its labels -/
def cLb (I : Nat → Nat → Int) (m N : Nat) (lab : Nat → Nat) (r w cp : Nat → Int) (S : Nat → Prop) : Prop := nNet I m N (fun i => nuC r (cU (lab i))) (fun i => nuC r (cV (lab i))) (fun i => w (lab i)) ∧ (∀ i, i < m → S (lab i)) ∧ (∀ l, S l → ∃ i, i < m ∧ lab i = l) ∧ (∀ i j, i < m → j < m → lab i = lab j → i = j) ∧ (∀ i, i < m → lab i < 1994) ∧ ∀ i, i < m → I 33 (2 * i) = cp (lab i) ∧ I 33 (2 * i + 1) = 0
theorem ex_map {α β : Type} {f : α → β} {g : Nat → α} {m : Nat} {a : α} : ex (fun i => f (g i)) m (f a) = fun i => f (ex g m a i) := by
  funext i
  unfold ex
  split <;> rfl
theorem cLb.cg {I : Nat → Nat → Int} {m N : Nat} {lab : Nat → Nat} {r w cp : Nat → Int} {S S' : Nat → Prop} (h : cLb I m N lab r w cp S) (e : ∀ x, S x ↔ S' x) : cLb I m N lab r w cp S' := by
  have : S = S' := funext fun x => propext (e x)
  rw [← this]
  exact h
theorem s_ledge {sh : oS} {I : Nat → Nat → Int} {L : Nat → Nat → Int64} {Q : oQ} (hs : Sh sh) {m N : Nat} {lab : Nat → Nat} {r w cp : Nat → Int} {S S' : Nat → Prop} (h : cLb I m N lab r w cp S) (hm : m < 1274) {a b rr c : Int} (l : Nat) (hl : l < 1994) (hS : ¬ S l) (ha : a = (nuC r (cU l) : Int)) (hb : b = (nuC r (cV l) : Int)) (ha2 : nuC r (cU l) < 324) (hb2 : nuC r (cV l) < 324) (hr : rr = cp l) (hpr : (I 31 13 = 1 ∧ w l = c) ∨ (I 31 13 = 0 ∧ w l = 0)) (hS' : ∀ x, S' x ↔ S x ∨ x = l)
    (k : ∀ J, FrE I J → cLb J (m + 1) N (ex lab m l) r w cp S' → Q none (sh, J, L)) : T_X7_edge [vR 31, vI a, vI b, vI rr, vI c] (sh, I, L) Q := by
  obtain ⟨h1, h2, h3, h4, h5, h6⟩ := h
  rw [ha, hb]
  refine s_cedge hs h1 hm ha2 hb2 hpr (fun J F hn e33 => k J F ⟨?_, fun i hi => ?_, fun x hx => ?_, fun i j hi hj e => ?_, fun i hi => ?_, fun i hi => ?_⟩)
  · rw [ex_map (f := fun x => nuC r (cU x)), ex_map (f := fun x => nuC r (cV x)), ex_map (f := w)] at hn
    exact hn
  · rw [hS']
    by_cases q : i = m
    · exact Or.inr (by rw [q, ex_at])
    · rw [ex_ne q]; exact Or.inl (h2 i (by omega))
  · rcases (hS' x).1 hx with z | z
    · obtain ⟨i, i1, i2⟩ := h3 x z
      exact ⟨i, by omega, by rw [ex_ne (by omega)]; exact i2⟩
    · exact ⟨m, by omega, by rw [ex_at, z]⟩
  · by_cases q : i = m
    · by_cases q2 : j = m
      · omega
      · rw [q, ex_at, ex_ne q2] at e
        exact absurd (h2 j (by omega)) (by rw [← e]; exact hS)
    · by_cases q2 : j = m
      · rw [q2, ex_at, ex_ne q] at e
        exact absurd (h2 i (by omega)) (by rw [e]; exact hS)
      · rw [ex_ne q, ex_ne q2] at e
        exact h4 i j (by omega) (by omega) e
  · by_cases q : i = m
    · rw [q, ex_at]; exact hl
    · rw [ex_ne q]; exact h5 i (by omega)
  · rw [e33]
    by_cases q : i = m
    · rw [q, ex_at, up_ne (by omega), up_at, up_at, hr]
      exact ⟨rfl, rfl⟩
    · rw [ex_ne q, up_ne (by omega), up_ne (by omega), up_ne (by omega), up_ne (by omega)]
      exact h6 i (by omega)
