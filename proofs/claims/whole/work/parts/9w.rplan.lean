/-! the class: a plan is made -/
theorem s_init0 {sh : oS} {I : Nat → Nat → Int} {L : Nat → Nat → Int64} {Q : oQ} {h : Nat} {x1 x2 : Int} (hk : sK sh h ∈ [0, 1, 3, 5, 10]) (k : Q none (sh, u2 (u2 I h 0 x1) h 1 x2, L)) : T_X0_init [vR h, vI x1, vI x2] (sh, I, L) Q := by
  refine And.intro (Nat.le_of_ble_eq_true rfl) (fun K hK => ?_)
  exact B_X0_init_0 hK (kh0_0 := hk) (k := B_X0_init_9 hK (kh0_0 := hk) (k := B_X0_init_14 hK (k := k)))
theorem s_init3 {sh : oS} {I : Nat → Nat → Int} {L : Nat → Nat → Int64} {Q : oQ} {h : Nat} {x1 x2 : Int} (hk : sK sh h ∈ [0, 1, 3, 5, 10]) (k : Q none (sh, u2 (u2 I h 0 x1) h 1 x2, L)) : T_X3_init [vR h, vI x1, vI x2] (sh, I, L) Q := by
  refine And.intro (Nat.le_of_ble_eq_true rfl) (fun K hK => ?_)
  exact B_X3_init_0 hK (k := s_init0 hk (B_X3_init_6 hK (k := k)))
theorem s_init5 {sh : oS} {I : Nat → Nat → Int} {L : Nat → Nat → Int64} {Q : oQ} {h : Nat} {x1 x2 : Int} (hk : sK sh h ∈ [0, 1, 3, 5, 10]) (k : Q none (sh, u2 (u2 I h 0 x1) h 1 x2, L)) : T_X5_init [vR h, vI x1, vI x2] (sh, I, L) Q := by
  refine And.intro (Nat.le_of_ble_eq_true rfl) (fun K hK => ?_)
  exact B_X5_init_0 hK (k := s_init3 hk (B_X5_init_6 hK (k := k)))
theorem s_init1 {sh : oS} {I : Nat → Nat → Int} {L : Nat → Nat → Int64} {Q : oQ} {h : Nat} {x1 : Int} (hk : sK sh h ∈ [0, 1, 3, 5, 10]) (k : Q none (sh, u2 (u2 I h 0 x1) h 1 0, L)) : T_X1_init [vR h, vI x1] (sh, I, L) Q := by
  refine And.intro (Nat.le_of_ble_eq_true rfl) (fun K hK => ?_)
  exact B_X1_init_0 hK (k := s_init0 hk (B_X1_init_6 hK (k := k)))
def kdO (kind : Int) : Nat := if kind = 1 then 3 else if kind = 2 then 5 else if kind = 3 then 1 else 0
theorem s_madePlan {sh : oS} {I : Nat → Nat → Int} {L : Nat → Nat → Int64} {Q : oQ} {kind kk n : Int} (hk : 0 ≤ kind ∧ kind ≤ 3) (h3 : kind = 3 → n = 0) (k : Q (some (vR (sN sh))) (sNew sh (kdO kind) 0, u2 (u2 (iNew sh I) (sN sh) 0 kk) (sN sh) 1 n, lNew sh L)) : T_X11_madePlan [vI kind, vI kk, vI n] (sh, I, L) Q := by
  refine And.intro (Nat.le_of_ble_eq_true rfl) (fun K hK => ?_)
  have c : kind = 0 ∨ kind = 1 ∨ kind = 2 ∨ kind = 3 := by omega
  refine B_X11_madePlan_0 hK (n1 := by omega) (k := ?_)
  rcases c with e | e | e | e
  · rw [swT_out (by simp; omega)]
    subst e
    exact B_X11_madePlan_57 hK (k := s_init0 (by rw [sK_new]; decide) (B_X11_madePlan_66 hK (k := k)))
  · rw [swT_in 0 28 (by omega) (by rfl)]
    subst e
    exact B_X11_madePlan_28 hK (k := s_init3 (by rw [sK_new]; decide) (B_X11_madePlan_37 hK (k := k)))
  · rw [swT_in 1 38 (by omega) (by rfl)]
    subst e
    exact B_X11_madePlan_38 hK (k := s_init5 (by rw [sK_new]; decide) (B_X11_madePlan_47 hK (k := k)))
  · rw [swT_in 2 48 (by omega) (by rfl)]
    have n0 := h3 e
    subst e n0
    exact hK.2 [false, true, false] 48 [none, some (vI kk), some (vI 0)] [] (sh, I, L) (0, 0) (B_X11_madePlan_48 hK (k := s_init1 (by rw [sK_new]; decide) (B_X11_madePlan_56 hK (k := k))))
theorem sEx.put {sh : oS} {h k : Nat} {v : Option Nat} (hh : h = 9 ∨ h = 10 ∨ (h = 0 ∧ (k = 6 ∨ k = 7))) : sEx sh (sPutR sh h k v) := ⟨Nat.le_refl _, fun _ _ => ⟨rfl, rfl⟩, fun x y _ h9 h10 h0 => put_eq (by omega)⟩
theorem s_added {sh : oS} {I : Nat → Nat → Int} {L : Nat → Nat → Int64} {Q : oQ} (hs : Sh sh) {h c : Nat} (c9 : I 0 9 = (c : Int)) (hc : c ≤ 8) (kb : sK sh h ∈ [0, 1, 3, 5, 10]) (k1 : c = 8 → Q (some (vI (-104))) (sh, I, L)) (k2 : c < 8 → Q (some (vI (c : Int))) (sPutR sh 10 c (some h), u2 I 0 9 ((c : Int) + 1), L)) : T_X11_added [vR 0, vR h] (sh, I, L) Q := by
  refine And.intro (Nat.le_of_ble_eq_true rfl) (fun K hK => ?_)
  refine B_X11_added_0 hK hs (n6a := by omega) (kt := fun z => ?_) (kf := fun z => B_X11_added_9 hK (k := k1 (by omega)))
  refine B_X11_added_12 hK hs (b21 := by omega) (kh1_1 := kb) (k := ?_)
  refine B_X11_added_22 hK (hs.ex (sEx.put (Or.inr (Or.inl rfl)))) (k := ?_)
  have kk := k2 (by omega)
  rw [c9, Int.toNat_natCast, show (c : Int) + 1 - 1 = (c : Int) by omega]
  exact kk
theorem mRel.eq3 {sh : oS} {I J : Nat → Nat → Int} {m h : Nat} (a : mRel sh I m h) (e47 : J 47 m = I 47 m ∧ J 50 m = I 50 m) (e48 : ∀ d : Nat, (d : Int) < I 47 m → J 48 (10 * m + d) = I 48 (10 * m + d) ∧ J 49 (10 * m + d) = I 49 (10 * m + d)) (e51 : ∀ c : Nat, (c : Int) < I 50 m → J 51 (2 * m + c) = I 51 (2 * m + c)) (q : ∀ x k, h ≤ x → x ≤ h + 3 → J x k = I x k) : mRel sh J m h := by
  obtain ⟨a1, a2, a3, a4, a5, a6⟩ := a
  refine ⟨a1, a2, by rw [q h 0 (by omega) (by omega), e47.1]; exact a3, by rw [q h 1 (by omega) (by omega), e47.2]; exact a4, fun d hd => ?_, fun c hc => ?_⟩
  · rw [e47.1] at hd
    rw [q _ d (by omega) (by omega), q _ d (by omega) (by omega), (e48 d hd).1, (e48 d hd).2]
    exact a5 d hd
  · rw [e47.2] at hc
    rw [q _ c (by omega) (by omega), e51 c hc]
    exact a6 c hc
theorem pRel.eq3 {sh : oS} {I J : Nat → Nat → Int} {p g : Nat} (a : pRel sh I p g) (e52 : J 52 p = I 52 p ∧ J 53 p = I 53 p ∧ J 54 p = I 54 p) (e55 : ∀ x, x < 18 → J 55 (18 * p + x) = I 55 (18 * p + x)) (q : ∀ x k, g ≤ x → x < g + (if I 52 p = 4 then 4 else 1) → J x k = I x k) : pRel sh J p g := by
  unfold pRel
  rw [e52.1, e52.2.1, e52.2.2]
  exact pK.eq a e55 q
/-- all comes together when something has come -/
theorem RelX.grow {sh sh' : oS} {I Z : Nat → Nat → Int} {b b' hn ht hn' ht' : Nat} {a a' : Int} (R : RelX sh I b hn ht a) (ex : sEx sh sh') (hS : rS Z b') (hPg : rPg Z) (hLd : rLd Z) (hKc : rKc Z) (h10 : Z 0 10 = Z 44 7) (h11 : Z 0 11 = Z 44 21 + a') (hIm : rIm Z) (hNx : rNx sh' Z hn' ht')
    (qc : ∀ x k, ((15 ≤ x ∧ x ≤ 22) ∨ 77 ≤ x) → x < sN sh → Z x k = I x k)
    (m1 : Z 0 8 = Z 44 8) (m2 : ∀ m : Nat, (m : Int) < I 44 8 → sR sh' 9 m = sR sh 9 m ∧ (Z 47 m = I 47 m ∧ Z 50 m = I 50 m) ∧ (∀ d : Nat, (d : Int) < I 47 m → Z 48 (10 * m + d) = I 48 (10 * m + d) ∧ Z 49 (10 * m + d) = I 49 (10 * m + d)) ∧ ∀ c : Nat, (c : Int) < I 50 m → Z 51 (2 * m + c) = I 51 (2 * m + c))
    (m3 : ∀ m : Nat, (m : Int) < Z 44 8 → (m : Int) < I 44 8 ∨ ∃ h, sR sh' 9 m = some h ∧ mRel sh' Z m h ∧ Dj h 4 hn' 4 ∧ Dj h 4 ht' 4 ∧ h + 4 ≤ sN sh')
    (p1 : Z 0 9 = Z 44 14) (p2 : ∀ p : Nat, (p : Int) < I 44 14 → sR sh' 10 p = sR sh 10 p ∧ (Z 52 p = I 52 p ∧ Z 53 p = I 53 p ∧ Z 54 p = I 54 p) ∧ ∀ x, x < 18 → Z 55 (18 * p + x) = I 55 (18 * p + x))
    (p3 : ∀ p : Nat, (p : Int) < Z 44 14 → (p : Int) < I 44 14 ∨ ∃ g, sR sh' 10 p = some g ∧ pRel sh' Z p g ∧ Dj g (if Z 52 p = 4 then 4 else 1) hn' 4 ∧ Dj g (if Z 52 p = 4 then 4 else 1) ht' 4 ∧ g + (if Z 52 p = 4 then 4 else 1) ≤ sN sh')
    (dn : hn' = hn ∨ sN sh ≤ hn') (dt : ht' = ht ∨ sN sh ≤ ht') : RelX sh' Z b' hn' ht' a' := by
  have exN := ex.1
  refine ⟨hS, hPg, hLd, ⟨m1, fun m hm => ?_⟩, ⟨p1, fun p hp => ?_⟩, hKc, ⟨h10, h11⟩, hIm, hNx⟩
  · rcases m3 m hm with h | h
    · obtain ⟨y, y1, y2, y3, y4, y5⟩ := R.2.2.2.1.2 m h
      obtain ⟨w1, w2, w3, w4⟩ := m2 m h
      have yy := y2.1.2
      have yn := y2.2.1
      unfold Dj at y3 y4
      refine ⟨y, by rw [w1]; exact y1, (y2.eq3 w2 w3 w4 (fun x k h1 h2 => qc x k (by omega) (by omega))).ex ex y5, ?_, ?_, by omega⟩
      · unfold Dj; omega
      · unfold Dj; omega
    · exact h
  · rcases p3 p hp with h | h
    · obtain ⟨y, y1, y2, y3, y4, y5⟩ := R.2.2.2.2.1.2 p h
      obtain ⟨w1, w2, w3⟩ := p2 p h
      have yy := y2.1
      unfold Dj at y3 y4
      have ez : Z 52 p = I 52 p := w2.1
      refine ⟨y, by rw [w1]; exact y1, (y2.eq3 w2 w3 (fun x k h1 h2 => ?_)).ex ex (by rw [ez]; exact y5), ?_, ?_, ?_⟩
      · by_cases z : I 52 p = 4
        · rw [if_pos z] at h2 y5; exact qc x k (by omega) (by omega)
        · rw [if_neg z] at h2 y5; exact qc x k (by omega) (by omega)
      · rw [ez]
        unfold Dj
        by_cases z : I 52 p = 4
        · rw [if_pos z] at y3 y5 ⊢
          omega
        · rw [if_neg z] at y3 y5 ⊢
          omega
      · rw [ez]
        unfold Dj
        by_cases z : I 52 p = 4
        · rw [if_pos z] at y4 y5 ⊢
          omega
        · rw [if_neg z] at y4 y5 ⊢
          omega
      · rw [ez]; omega
    · exact h
theorem mOK.addP {I Z : Nat → Nat → Int} {c : Nat} (ok : mOK I) (hc : I 44 14 = (c : Int)) (hc8 : c < 8) (z14 : Z 44 14 = (c : Int) + 1) (q : ∀ x y, (x = 44 ∧ (y ≤ 6 ∨ y = 8)) ∨ (45 ≤ x ∧ x ≤ 51) → Z x y = I x y) (p2 : ∀ p : Nat, p < c → (Z 52 p = I 52 p ∧ Z 53 p = I 53 p ∧ Z 54 p = I 54 p) ∧ ∀ x, x < 18 → Z 55 (18 * p + x) = I 55 (18 * p + x)) (op : (0 ≤ Z 53 c ∧ Z 53 c ≤ 3) ∧ pOK (Z 52 c) (Z 53 c) (Z 54 c) (fun x => Z 55 (18 * c + x))) : mOK Z := by
  have e : rfV (fun h k => if (h = 44 ∧ k = 14) ∨ (52 ≤ h ∧ h ≤ 55) then Z h k else I h k) Z := rfV.of (fun x y t => by
    by_cases u : (x = 44 ∧ y = 14) ∨ (52 ≤ x ∧ x ≤ 55)
    · rw [if_pos u]
    · rw [if_neg u]
      exact q x y (by omega))
  rw [e.ok]
  obtain ⟨h1, h2, h3, h4, h5, h6, h7, h8, h9, h10, h11⟩ := ok
  refine ⟨h1, h2, h3, h4, h5, h6, h7, h8, h9, ?_, fun p hp => ?_⟩
  · show 0 ≤ Z 44 14 ∧ Z 44 14 ≤ 8
    omega
  · have hp : (p : Int) < Z 44 14 := hp
    show (0 ≤ Z 53 p ∧ Z 53 p ≤ 3) ∧ pOK (Z 52 p) (Z 53 p) (Z 54 p) (fun x => Z 55 (18 * p + x))
    by_cases t : p = c
    · rw [t]; exact op
    · obtain ⟨⟨w1, w2, w3⟩, w4⟩ := p2 p (by omega)
      obtain ⟨g1, g2, g3, g4, g5, g6⟩ := h11 p (by omega)
      rw [w1, w2, w3]
      refine ⟨g1, g2, g3, g4, g5, fun k4 j hj => ?_⟩
      have := g6 k4 j hj
      dsimp only at this ⊢
      rw [w4 (3 * j) (by omega), w4 (3 * j + 1) (by omega), w4 (3 * j + 2) (by omega)]
      exact this
theorem s_leastNumber {sh : oS} {I : Nat → Nat → Int} {L : Nat → Nat → Int64} {Q : oQ} {kind : Int} (hk : inR kind) (k : Q (some (vI (if kind = 1 ∨ kind = 2 then 1 else 0))) (sh, I, L)) : T_X11_leastNumber [vI kind] (sh, I, L) Q := by
  refine And.intro (Nat.le_of_ble_eq_true rfl) (fun K hK => ?_)
  refine B_X11_leastNumber_0 hK (n2a := hk) (kt := fun z => ?_) (kf := fun z => ?_)
  · rw [if_pos (Or.inl z)] at k
    exact B_X11_leastNumber_10 hK (k := B_X11_leastNumber_15 hK (k := k))
  · refine B_X11_leastNumber_5 hK (n7a := hk) (kt := fun y => ?_) (kf := fun y => ?_)
    · rw [if_neg (by omega)] at k
      exact B_X11_leastNumber_14 hK (k := B_X11_leastNumber_15 hK (k := k))
    · rw [if_pos (by omega)] at k
      exact B_X11_leastNumber_10 hK (k := B_X11_leastNumber_15 hK (k := k))
theorem s_mostNumber {sh : oS} {I : Nat → Nat → Int} {L : Nat → Nat → Int64} {Q : oQ} {kind : Int} (hk : inR kind) (k : Q (some (vI (if kind = 0 then 7 else if kind = 3 then 0 else 9))) (sh, I, L)) : T_X11_mostNumber [vI kind] (sh, I, L) Q := by
  refine And.intro (Nat.le_of_ble_eq_true rfl) (fun K hK => ?_)
  refine B_X11_mostNumber_0 hK (n1 := hk) (kt := fun z => ?_) (kf := fun z => ?_)
  · rw [if_neg z] at k
    refine B_X11_mostNumber_9 hK (n11a := hk) (kt := fun y => ?_) (kf := fun y => ?_)
    · rw [if_neg y] at k
      exact B_X11_mostNumber_18 hK (k := B_X11_mostNumber_20 hK (k := k))
    · rw [if_pos (Classical.not_not.1 y)] at k
      exact B_X11_mostNumber_14 hK (k := B_X11_mostNumber_20 hK (k := k))
  · rw [if_pos (Classical.not_not.1 z)] at k
    exact B_X11_mostNumber_4 hK (k := B_X11_mostNumber_20 hK (k := k))
set_option maxHeartbeats 2000000 in
theorem c_plan {sh : oS} {I : Nat → Nat → Int} {L : Nat → Nat → Int64} {Q : oQ} (hs : Sh sh) {b : Nat} {a kind kk n : Int} (R : Rel sh I b a) (hk : inR kind) (hkk : inR kk) (hnn : inR n) (k : ∀ sh' J L', Sh sh' → rfF I J → Rel sh' (plnI J kind kk n) b a → Q (some (vI (plnV I kind kk n))) (sh', J, L')) : T_X11_plan [vR 0, vI kind, vI kk, vI n] (sh, I, L) Q := by
  refine And.intro (Nat.le_of_ble_eq_true rfl) (fun K hK => ?_)
  obtain ⟨hn, ht, R⟩ := R
  have hN77 := hs.2.2.2
  have o10 := R.1.1.2.2.2.2.2.2.2.2.2.1
  have out : ¬ plnD kind kk n → Q (some (vI (-102))) (sh, I, L) := fun z => by
    have kv := k sh I L hs (fun _ _ _ _ => rfl) (by
      unfold plnI
      rw [if_neg (fun u => z u.1)]
      exact ⟨hn, ht, R⟩)
    unfold plnV at kv
    rw [if_pos z] at kv
    exact kv
  have o28 : ¬ plnD kind kk n → K 28 [none, none, none, none] [] (sh, I, L) (0, 0) := fun z => B_X11_plan_28 hK (k := out z)
  have o47 : ¬ plnD kind kk n → K 47 [none, none, none, none] [] (sh, I, L) (0, 0) := fun z => B_X11_plan_47 hK (k := out z)
  have lst : (0 ≤ kind ∧ kind ≤ 3) → 1 ≤ kk → (kk ≤ 3 ∧ (kind = 3 → kk ≤ 2)) → K 31 [some (vR 0), some (vI kind), some (vI kk), some (vI n)] [] (sh, I, L) (0, 0) := by
    intro c1 c2 c3
    refine B_X11_plan_31 hK (k := ?_)
    refine s_leastNumber hk ?_
    refine B_X11_plan_36 hK (n36a := hnn) (n36b := by split <;> decide) (kt := fun z => o47 (fun u => ?_)) (kf := fun z => ?_)
    · obtain ⟨-, u⟩ := u
      split at z <;> omega
    refine B_X11_plan_39 hK (k := ?_)
    refine s_mostNumber hk ?_
    refine B_X11_plan_44 hK (n44a := hnn) (n44b := by split <;> (try split) <;> decide) (kt := fun z2 => ?_) (kf := fun z2 => o47 (fun u => ?_))
    rotate_left
    · obtain ⟨-, u⟩ := u
      split at z2
      · omega
      · split at z2 <;> omega
    have dd : plnD kind kk n := by
      refine ⟨⟨c1, c2, c3.1, c3.2⟩, ?_⟩
      split at z <;> split at z2 <;> (try split at z2) <;> omega
    have n3 : kind = 3 → n = 0 := fun u => by
      have := dd.2
      omega
    unfold plnV at k
    have dd2 : ¬ ¬ plnD kind kk n := fun t => t dd
    rw [if_neg dd2] at k
    refine B_X11_plan_50 hK (k := ?_)
    refine s_madePlan c1 n3 ?_
    obtain ⟨N, hN⟩ : ∃ N, N = sN sh := ⟨_, rfl⟩
    have ex1 : sEx sh (sNew sh (kdO kind) 0) := sEx.new
    have q1 : ∀ x y, x ≠ N → (u2 (u2 (iNew sh I) N 0 kk) N 1 n) x y = I x y := fun x y hx => by
      rw [uN hx, uN hx]
      show (if x = sh.1 then 0 else I x y) = I x y
      exact if_neg (by rw [hN] at hx; exact hx)
    have qN0 : (u2 (u2 (iNew sh I) N 0 kk) N 1 n) N 0 = kk := by rw [uK (by decide), uA]
    have qN1 : (u2 (u2 (iNew sh I) N 0 kk) N 1 n) N 1 = n := uA
    have skN : sK (sNew sh (kdO kind) 0) N = kdO kind := by rw [hN]; exact sK_new
    have snN : sN (sNew sh (kdO kind) 0) = N + 1 := by rw [hN]; rfl
    have r1 : ∀ h y, h < N → sR (sNew sh (kdO kind) 0) h y = sR sh h y := fun h y hh => sR_new (by rw [← hN]; exact hh)
    rw [← hN]
    have hs1 := hs.ex ex1
    generalize sNew sh (kdO kind) 0 = sh1 at *
    generalize u2 (u2 (iNew sh I) N 0 kk) N 1 n = J1 at *
    generalize lNew sh L = L1
    have e1 : rfF I J1 := fun x y h1 h2 => q1 x y (by omega)
    have R1 : RelX sh1 J1 b hn ht a := R.frN hN77 ex1 (fun y => r1 9 y (by omega)) (fun y => r1 10 y (by omega)) (r1 0 6 (by omega)) (r1 0 7 (by omega)) e1.e (R.2.2.2.2.2.1.eq e1.e (fun x => ⟨q1 41 x (by omega), q1 42 x (by omega), q1 43 x (by omega)⟩)) (by rw [q1 0 11 (by omega), q1 44 21 (by omega)]; exact R.2.2.2.2.2.2.1.2) (fun x y _ h2 _ _ _ _ _ => q1 x y (by omega))
    obtain ⟨c, hc⟩ := Int.eq_ofNat_of_zero_le o10.1
    have c9 : J1 0 9 = (c : Int) := by rw [q1 0 9 (by omega), R.2.2.2.2.1.1]; exact hc
    have c14 : J1 44 14 = (c : Int) := by rw [q1 44 14 (by omega)]; exact hc
    have kbN : sK sh1 N ∈ [0, 1, 3, 5, 10] := by
      rw [skN]
      unfold kdO
      (repeat' split) <;> decide
    refine B_X11_plan_57 hK hs1 (k := ?_)
    refine s_added hs1 c9 (by omega) kbN (fun e8 => ?_) (fun l8 => ?_)
    · refine B_X11_plan_60 hK (k := ?_)
      have kv := k sh1 J1 L1 hs1 e1 (by
        unfold plnI
        rw [if_neg (fun u => u.2 (by omega))]
        exact ⟨hn, ht, R1⟩)
      rw [if_pos (by omega)] at kv
      exact kv
    · refine B_X11_plan_60 hK (k := ?_)
      rw [if_neg (by omega), hc] at k
      have ex2 : sEx sh1 (sPutR sh1 10 c (some N)) := sEx.put (Or.inr (Or.inl rfl))
      refine k _ _ L1 (hs1.ex ex2) (fun x y h1 h2 => by rw [uN (by omega)]; exact e1 x y h1 h2) ⟨hn, ht, ?_⟩
      have zi : plnI (u2 J1 0 9 ((c : Int) + 1)) kind kk n = u2 (u2 (u2 (u2 (u2 J1 0 9 ((c : Int) + 1)) 52 c kind) 53 c kk) 54 c n) 44 14 ((c : Int) + 1) := by
        unfold plnI
        have w : (u2 J1 0 9 ((c : Int) + 1)) 44 14 = (c : Int) := by rw [uN (by decide)]; exact c14
        rw [w, if_pos ⟨dd, by omega⟩, Int.toNat_natCast]
      rw [zi]
      have zq : ∀ x y, ¬ (x = 0 ∧ y = 9) → ¬ (x = 44 ∧ y = 14) → ¬ (52 ≤ x ∧ x ≤ 54 ∧ y = c) → (u2 (u2 (u2 (u2 (u2 J1 0 9 ((c : Int) + 1)) 52 c kind) 53 c kk) 54 c n) 44 14 ((c : Int) + 1)) x y = J1 x y := fun x y h1 h2 h3 => by
        rw [uF (by omega), uF (by omega), uF (by omega), uF (by omega), uF (by omega)]
      have z9 : (u2 (u2 (u2 (u2 (u2 J1 0 9 ((c : Int) + 1)) 52 c kind) 53 c kk) 54 c n) 44 14 ((c : Int) + 1)) 0 9 = (c : Int) + 1 := by
        rw [uN (by decide), uN (by decide), uN (by decide), uN (by decide), uA]
      have z14 : (u2 (u2 (u2 (u2 (u2 J1 0 9 ((c : Int) + 1)) 52 c kind) 53 c kk) 54 c n) 44 14 ((c : Int) + 1)) 44 14 = (c : Int) + 1 := uA
      have z52 : (u2 (u2 (u2 (u2 (u2 J1 0 9 ((c : Int) + 1)) 52 c kind) 53 c kk) 54 c n) 44 14 ((c : Int) + 1)) 52 c = kind := by
        rw [uN (by decide), uN (by decide), uN (by decide), uA]
      have z53 : (u2 (u2 (u2 (u2 (u2 J1 0 9 ((c : Int) + 1)) 52 c kind) 53 c kk) 54 c n) 44 14 ((c : Int) + 1)) 53 c = kk := by
        rw [uN (by decide), uN (by decide), uA]
      have z54 : (u2 (u2 (u2 (u2 (u2 J1 0 9 ((c : Int) + 1)) 52 c kind) 53 c kk) 54 c n) 44 14 ((c : Int) + 1)) 54 c = n := by
        rw [uN (by decide), uA]
      generalize u2 (u2 (u2 (u2 (u2 J1 0 9 ((c : Int) + 1)) 52 c kind) 53 c kk) 54 c n) 44 14 ((c : Int) + 1) = Z at *
      obtain ⟨⟨s1, s2, s3, s4, s5, s6⟩, r2, r3, -, -, r6, r7, r8, rn⟩ := id R1
      obtain ⟨x1, x2, x3, x4, x5, x6, x7, x8, x9, x10⟩ := id rn
      have xn := R.2.2.2.2.2.2.2.2
      have m2 := x3.2
      have t2 := x5.2
      have p2 : ∀ p : Nat, p < c → (Z 52 p = J1 52 p ∧ Z 53 p = J1 53 p ∧ Z 54 p = J1 54 p) ∧ ∀ x, x < 18 → Z 55 (18 * p + x) = J1 55 (18 * p + x) := fun p hp => ⟨⟨zq 52 p (by omega) (by omega) (by omega), zq 53 p (by omega) (by omega) (by omega), zq 54 p (by omega) (by omega) (by omega)⟩, fun x hx => zq 55 _ (by omega) (by omega) (by omega)⟩
      have d2 := dd.2
      have okZ : mOK Z := s1.addP c14 l8 z14 (fun x y h => zq x y (by omega) (by omega) (by omega)) p2 (by
        rw [z52, z53, z54]
        exact ⟨by omega, by omega, by omega, fun u => by omega, fun u => by omega, fun u => by omega⟩)
      refine R1.grow ex2 ⟨okZ, ?_, ?_, ?_, ?_, ?_⟩ ?_ ?_ ?_ ?_ ?_ ?_ ⟨by rw [put_eq (by omega)]; exact x1, by rw [put_eq (by omega)]; exact x2, x3.ex ex2 x7, x4, x5.ex ex2 x8, x6, x7, x8, ?_, ?_⟩ (fun x y h _ => zq x y (by omega) (by omega) (by omega)) ?_ (fun m hm => ⟨put_eq (by omega), ⟨zq 47 m (by omega) (by omega) (by omega), zq 50 m (by omega) (by omega) (by omega)⟩, fun d hd => ⟨zq 48 _ (by omega) (by omega) (by omega), zq 49 _ (by omega) (by omega) (by omega)⟩, fun c hc => zq 51 _ (by omega) (by omega) (by omega)⟩) (fun m hm => Or.inl (by rw [zq 44 8 (by omega) (by omega) (by omega)] at hm; exact hm)) (by rw [z9, z14]) (fun p hp => ⟨put_eq (by omega), p2 p (by omega)⟩) (fun p hp => ?_) (Or.inl rfl) (Or.inl rfl)
      · rw [zq 44 3 (by omega) (by omega) (by omega), zq 44 5 (by omega) (by omega) (by omega)]
        exact ⟨s2.1, s2.2.1, fun p hp => by rw [zq 45 p (by omega) (by omega) (by omega)]; exact s2.2.2 p hp⟩
      · rw [zq 44 21 (by omega) (by omega) (by omega)]; exact s3
      · rw [zq 44 19 (by omega) (by omega) (by omega)]; exact s4
      · intro x hx
        rw [zq 44 19 (by omega) (by omega) (by omega)] at hx
        rw [zq 56 x (by omega) (by omega) (by omega)]
        exact s5 x hx
      · rw [zq 44 7 (by omega) (by omega) (by omega)]; exact s6
      · unfold rPg
        rw [zq 1 1 (by omega) (by omega) (by omega), zq 44 19 (by omega) (by omega) (by omega)]
        refine ⟨r2.1, fun x hx => ?_⟩
        rw [zq 2 x (by omega) (by omega) (by omega), zq 56 x (by omega) (by omega) (by omega)]
        exact r2.2 x hx
      · unfold rLd
        rw [zq 3 0 (by omega) (by omega) (by omega), zq 3 3 (by omega) (by omega) (by omega), zq 3 4 (by omega) (by omega) (by omega), zq 3 5 (by omega) (by omega) (by omega), zq 3 6 (by omega) (by omega) (by omega), zq 44 0 (by omega) (by omega) (by omega), zq 44 3 (by omega) (by omega) (by omega), zq 44 4 (by omega) (by omega) (by omega), zq 44 5 (by omega) (by omega) (by omega), zq 44 6 (by omega) (by omega) (by omega)]
        refine ⟨r3.1, r3.2.1, r3.2.2.1, r3.2.2.2.1, r3.2.2.2.2.1, fun p hp => ?_⟩
        rw [zq 4 p (by omega) (by omega) (by omega), zq 5 p (by omega) (by omega) (by omega), zq 45 p (by omega) (by omega) (by omega), zq 46 p (by omega) (by omega) (by omega)]
        exact r3.2.2.2.2.2 p hp
      · exact r6.add s1 (fun x => ⟨zq 41 x (by omega) (by omega) (by omega), zq 42 x (by omega) (by omega) (by omega), zq 43 x (by omega) (by omega) (by omega)⟩) (by omega) (by rw [zq 44 8 (by omega) (by omega) (by omega)]; exact Int.le_refl _) ⟨zq 44 0 (by omega) (by omega) (by omega), zq 44 3 (by omega) (by omega) (by omega), zq 44 4 (by omega) (by omega) (by omega), zq 44 5 (by omega) (by omega) (by omega)⟩ (fun x => ⟨zq 45 x (by omega) (by omega) (by omega), zq 46 x (by omega) (by omega) (by omega)⟩) (fun m _ => ⟨zq 47 m (by omega) (by omega) (by omega), zq 50 m (by omega) (by omega) (by omega)⟩) (fun m d _ _ => ⟨zq 48 _ (by omega) (by omega) (by omega), zq 49 _ (by omega) (by omega) (by omega)⟩) (fun p hp => p2 p (by omega))
      · rw [zq 0 10 (by omega) (by omega) (by omega), zq 44 7 (by omega) (by omega) (by omega)]; exact r7.1
      · rw [zq 0 11 (by omega) (by omega) (by omega), zq 44 21 (by omega) (by omega) (by omega)]; exact r7.2
      · unfold rIm
        rw [zq 44 0 (by omega) (by omega) (by omega), zq 44 7 (by omega) (by omega) (by omega), zq 44 22 (by omega) (by omega) (by omega), zq 0 13 (by omega) (by omega) (by omega), zq 44 23 (by omega) (by omega) (by omega)]
        refine ⟨r8.1, ?_⟩
        rcases r8.2 with z | ⟨z1, z2, z3, z4⟩
        · exact Or.inl z
        · refine Or.inr ⟨z1, z2, z3, fun w p hp => ?_⟩
          rw [zq 23 p (by omega) (by omega) (by omega), zq 57 p (by omega) (by omega) (by omega)]
          exact z4 w p hp
      · rw [zq ht 0 (by omega) (by omega) (by omega)]; exact x9
      · rw [zq ht 1 (by omega) (by omega) (by omega)]; exact x10
      · rw [zq 0 8 (by omega) (by omega) (by omega), zq 44 8 (by omega) (by omega) (by omega)]; exact R1.2.2.2.1.1
      · rw [z14] at hp
        by_cases t : p = c
        · subst t
          rw [z52, if_neg (show ¬ kind = 4 by omega)]
          have xo := xn.2.2.2.2.2.2.1
          have xo2 := xn.2.2.2.2.2.2.2.1
          refine Or.inr ⟨N, put_at, ?_, Or.inr (by omega), Or.inr (by omega), by show N + 1 ≤ sN sh1; omega⟩
          unfold pRel
          rw [z52, z53, z54]
          refine ⟨by omega, by rw [zq N 0 (by omega) (by omega) (by omega)]; exact qN0, by rw [zq N 1 (by omega) (by omega) (by omega)]; exact qN1, ?_⟩
          have sk2 : sK (sPutR sh1 10 p (some N)) N = kdO kind := skN
          rw [sk2]
          unfold kdO
          have kc : kind = 0 ∨ kind = 1 ∨ kind = 2 ∨ kind = 3 := by omega
          rcases kc with u | u | u | u
          · rw [if_neg (by omega), if_neg (by omega), if_neg (by omega)]
            exact Or.inl ⟨rfl, u, by omega, by omega⟩
          · rw [if_pos u]
            exact Or.inr (Or.inl ⟨rfl, u, by omega, by omega⟩)
          · rw [if_neg (by omega), if_pos u]
            exact Or.inr (Or.inr (Or.inl ⟨rfl, u, by omega, by omega⟩))
          · rw [if_neg (by omega), if_neg (by omega), if_pos u]
            exact Or.inr (Or.inr (Or.inr (Or.inl ⟨rfl, u, by omega, by omega⟩)))
        · exact Or.inl (by omega)
  refine B_X11_plan_0 hK (n1 := hk) (kt := fun z => o28 (fun u => by have := u.1; omega)) (kf := fun z => ?_)
  refine B_X11_plan_4 hK (n6a := hk) (kt := fun z2 => o28 (fun u => by have := u.1; omega)) (kf := fun z2 => ?_)
  refine B_X11_plan_9 hK (n11a := hkk) (kt := fun z3 => o28 (fun u => by have := u.1; omega)) (kf := fun z3 => ?_)
  refine B_X11_plan_14 hK (n17a := hk) (kt := fun z4 => ?_) (kf := fun z4 => ?_)
  · refine B_X11_plan_24 hK (k := B_X11_plan_25 hK (n25a := hkk) (n25b := by decide) (kt := fun z5 => lst (by omega) (by omega) (by omega)) (kf := fun z5 => o28 (fun u => by have := u.1; omega)))
  · refine B_X11_plan_20 hK (k := B_X11_plan_25 hK (n25a := hkk) (n25b := by decide) (kt := fun z5 => lst (by omega) (by omega) (by omega)) (kf := fun z5 => o28 (fun u => by have := u.1; omega)))
