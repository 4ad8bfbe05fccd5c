/-! the class pushes along a path -/
theorem pth_ne {I J : Nat → Nat → Int} {m N : Nat} {u v : Nat → Nat} {w : Nat → Int} {l : Nat} {nd g : Nat → Nat} (h : pth I J m N u v w l nd g) {i j : Nat} (hi : i < l) (hj : j < l) (hij : i ≠ j) : g i ≠ g j ∧ g i ≠ mate (g j) := by
  obtain ⟨-, -, i3, i4⟩ := h.2.1 i hi
  obtain ⟨-, -, j3, j4⟩ := h.2.1 j hj
  refine ⟨fun z => ?_, fun z => ?_⟩
  · rw [z, j3] at i3
    exact hij (h.2.2.1 i j (by omega) (by omega) i3.symm)
  · rw [z, eF_mate, j4] at i3
    rw [z, eT_mate, j3] at i4
    have a := h.2.2.1 (j + 1) i (by omega) (by omega) i3
    have b := h.2.2.1 j (i + 1) (by omega) (by omega) i4
    omega
set_option maxHeartbeats 2000000 in
theorem s_push {sh : oS} {I : Nat → Nat → Int} {L : Nat → Nat → Int64} {Q : oQ} (hs : Sh sh) {m N l : Nat} {u v : Nat → Nat} {w cp : Nat → Int} {nd g : Nat → Nat} (hn : nNet I m N u v w) (hr0 : ∀ e, e < 2 * m → 0 ≤ I 33 e) (hrb : ∀ e, e < 2 * m → I 33 e ≤ 2000000000) (hcap : ∀ i, i < m → I 33 (2 * i) + I 33 (2 * i + 1) = cp i) {pj : Nat → Int} (hp : pot (2 * m) (eF u v) (eT u v) (I 33) (eC w) pj) (h : pth I I m N u v w l nd g) (h1 : 1 ≤ l ∧ l < 324) (hj : ∀ i, i ≤ l → pj (nd i) = I 37 (nd i)) (hs01 : ∀ n, n < N → I 40 n = 0 ∨ I 40 n = 1)
    (k : ∀ J (x : Int), Fr [33, 40] [(31, 11), (31, 12)] I J → 0 < x → (∀ e, e < 2 * m → 0 ≤ J 33 e) → (∀ i, i < m → J 33 (2 * i) + J 33 (2 * i + 1) = cp i) → pot (2 * m) (eF u v) (eT u v) (J 33) (eC w) pj → (∀ n, bal m u v (fl (J 33)) n = bal m u v (fl (I 33)) n + ((if n = nd l then x else 0) - (if n = 0 then x else 0))) → sm m (fun i => w i * fl (J 33) i) = sm m (fun i => w i * fl (I 33) i) + (J 31 12 - I 31 12) → J 31 11 = I 31 11 + x → (∀ n, n < N → J 40 n = 0 ∨ J 40 n = 1) → Q none (sh, J, L)) : T_X7_push [vR 31, vI (l : Int)] (sh, I, L) Q := by
  refine And.intro (Nat.le_of_ble_eq_true rfl) (fun K hK => ?_)
  obtain ⟨n1, n2, n3, n4, n5, n6⟩ := hn
  refine B_X7_push_0 hK (k := ?_)
  -- what flows is written
  have walk2 : ∀ (x : Int), 0 < x → x ≤ 268435456 → (∀ i, i < l → x ≤ I 33 (g i)) → ∀ (d j : Nat) (J : Nat → Nat → Int), j + d = l → Fr [33, 40] [(31, 11), (31, 12)] I J → J 31 11 = I 31 11 → (∀ i, j ≤ i → i < l → J 33 (g i) = I 33 (g i)) → (∀ e, e < 2 * m → 0 ≤ J 33 e) → (∀ i, i < m → J 33 (2 * i) + J 33 (2 * i + 1) = cp i) → pot (2 * m) (eF u v) (eT u v) (J 33) (eC w) pj → (∀ n, bal m u v (fl (J 33)) n = bal m u v (fl (I 33)) n + ((if n = nd j then x else 0) - (if n = 0 then x else 0))) → sm m (fun i => w i * fl (J 33) i) = sm m (fun i => w i * fl (I 33) i) + (J 31 12 - I 31 12) → (∀ n, n < N → J 40 n = 0 ∨ J 40 n = 1) → K 44 [some (vR 31), some (vI (l : Int)), some (vI x), some (vI (j : Int)), none] [] (sh, J, L) (0, 0) := by
    intro x hx0 hx1 hxr d
    induction d with
    | zero =>
      intro j J hd F f1 f2 f3 f4 f5 f6 f7 f8
      have : j = l := by omega
      subst this
      refine B_X7_push_44 hK (n46a := by omega) (n46b := by omega) (kt := fun _ => ?_) (kf := fun z => absurd (by omega) z)
      refine B_X7_push_120 hK hs (k := ?_)
      have e33 : (u2 J 31 11 (J 31 11 + x)) 33 = J 33 := u2_oth (by decide)
      refine k _ x (F.u 31 11 _ (by simp)) hx0 (by rw [e33]; exact f3) (by rw [e33]; exact f4) (by rw [e33]; exact f5) (by rw [e33]; exact f6) (by rw [e33, uK (by decide)]; exact f7) (by rw [uA, f1]) (fun n hn => by rw [uN (by decide)]; exact f8 n hn)
    | succ d ih =>
      intro j J hd F f1 f2 f3 f4 f5 f6 f7 f8
      have hjl : j < l := by omega
      obtain ⟨g1, g2, g3, g4⟩ := h.2.1 j hjl
      obtain ⟨d1, d2, d3⟩ := g2
      generalize hg : g j = e at *
      have ml := mate_lt d1
      have nb := h.2.2.2 j (by omega)
      obtain ⟨w1, w2, w3⟩ := n5 e d1
      have wm := (n5 _ ml).1
      rw [eT_mate, g3] at wm
      have t38 : J 38 ((j : Int).toNat) = (e : Int) := by rw [Int.toNat_natCast, F 38 j (by decide) (by simp)]; exact g1
      have fx : fXor (e : Int) 1 = (mate e : Int) := fXor1 (by omega)
      refine B_X7_push_44 hK (n46a := by omega) (n46b := by omega) (kt := fun z => absurd z (by omega)) (kf := fun _ => ?_)
      refine B_X7_push_49 hK hs (b54 := by omega) (b64 := by rw [t38]; omega) (b77 := by rw [t38, fx]; omega) (b113 := by rw [t38, fx, Int.toNat_natCast, F 32 _ (by decide) (by simp), wm]; omega) (k := ?_)
      rw [t38, fx, Int.toNat_natCast, Int.toNat_natCast, F 32 (mate e) (by decide) (by simp), wm, Int.toNat_natCast, F 34 e (by decide) (by simp), w2]
      have erm : (u2 (u2 J 33 e (J 33 e - x)) 33 (mate e) ((u2 J 33 e (J 33 e - x)) 33 (mate e) + x)) 33 = rmU (J 33) e x := rmU_eq J 33 e x
      have q33 : (u2 (u2 (u2 (u2 J 33 e (J 33 e - x)) 33 (mate e) ((u2 J 33 e (J 33 e - x)) 33 (mate e) + x)) 31 12 (J 31 12 + x * eC w e)) 40 (nd j) 0) 33 = rmU (J 33) e x := by
        rw [u2_oth (by decide), u2_oth (by decide), erm]
      have q11 : (u2 (u2 (u2 (u2 J 33 e (J 33 e - x)) 33 (mate e) ((u2 J 33 e (J 33 e - x)) 33 (mate e) + x)) 31 12 (J 31 12 + x * eC w e)) 40 (nd j) 0) 31 11 = J 31 11 := by
        rw [uN (by decide), uK (by decide), uN (by decide), uN (by decide)]
      have q12 : (u2 (u2 (u2 (u2 J 33 e (J 33 e - x)) 33 (mate e) ((u2 J 33 e (J 33 e - x)) 33 (mate e) + x)) 31 12 (J 31 12 + x * eC w e)) 40 (nd j) 0) 31 12 = J 31 12 + x * eC w e := by
        rw [uN (by decide), uA]
      have q40 : ∀ n, n < N → (u2 (u2 (u2 (u2 J 33 e (J 33 e - x)) 33 (mate e) ((u2 J 33 e (J 33 e - x)) 33 (mate e) + x)) 31 12 (J 31 12 + x * eC w e)) 40 (nd j) 0) 40 n = 0 ∨ (u2 (u2 (u2 (u2 J 33 e (J 33 e - x)) 33 (mate e) ((u2 J 33 e (J 33 e - x)) 33 (mate e) + x)) 31 12 (J 31 12 + x * eC w e)) 40 (nd j) 0) 40 n = 1 := by
        intro n hn
        by_cases z : n = nd j
        · rw [z, uA]; exact Or.inl rfl
        · rw [uK z, uN (by decide), uN (by decide), uN (by decide)]
          exact f8 n hn
      have FF : Fr [33, 40] [(31, 11), (31, 12)] I (u2 (u2 (u2 (u2 J 33 e (J 33 e - x)) 33 (mate e) ((u2 J 33 e (J 33 e - x)) 33 (mate e) + x)) 31 12 (J 31 12 + x * eC w e)) 40 (nd j) 0) := (((F.u 33 _ _ (by simp)).u 33 _ _ (by simp)).u 31 12 _ (by simp)).u 40 _ _ (by simp)
      generalize (u2 (u2 (u2 (u2 J 33 e (J 33 e - x)) 33 (mate e) ((u2 J 33 e (J 33 e - x)) 33 (mate e) + x)) 31 12 (J 31 12 + x * eC w e)) 40 (nd j) 0) = Z at *
      have hre : J 33 e = I 33 e := by have := f2 j (Nat.le_refl j) hjl; rw [hg] at this; exact this
      have hxe : x ≤ J 33 e := by rw [hre]; have := hxr j hjl; rw [hg] at this; exact this
      refine ih (j + 1) Z (by omega) FF (by rw [q11]; exact f1) (fun i hi hil => ?_) (fun e' he' => ?_) (fun i hi => ?_) (fun e' he' hr' => ?_) (fun n => ?_) ?_ q40
      · have nn := pth_ne h hil hjl (by omega)
        rw [hg] at nn
        rw [q33]
        unfold rmU
        rw [if_neg nn.1, if_neg nn.2]
        exact f2 i (by omega) hil
      · rw [q33]
        have a1 := f3 e' he'
        have a2 := f3 (mate e) ml
        unfold rmU
        split
        · omega
        · split <;> omega
      · rw [q33, cap_rmU]
        exact f4 i hi
      · rw [q33] at hr'
        by_cases z : e' = mate e
        · subst z
          rw [eT_mate, eF_mate, eC_mate, g3, g4, hj j (by omega), hj (j + 1) (by omega)]
          rw [g3, g4] at d3
          omega
        · refine f5 e' he' ?_
          by_cases z2 : e' = e
          · subst z2
            omega
          · unfold rmU at hr'
            rw [if_neg z2, if_neg z] at hr'
            exact hr'
      · rw [q33, bal_rmU d1, f6 n, g3, g4]
        omega
      · rw [q33, cost_rmU d1, f7, q12]
        omega
  -- the least room
  have walk1 : ∀ (d j : Nat) (x : Int), j + d = l → 0 < x → x ≤ 268435456 → (∀ i, i < j → x ≤ I 33 (g i)) → K 5 [some (vR 31), some (vI (l : Int)), some (vI x), some (vI (j : Int)), none] [] (sh, I, L) (0, 0) := by
    intro d
    induction d with
    | zero =>
      intro j x hd hx hx2 hm
      refine B_X7_push_5 hK (n7a := by omega) (n7b := by omega) (kt := fun _ => ?_) (kf := fun z => absurd (by omega) z)
      refine B_X7_push_42 hK (k := ?_)
      refine walk2 x hx hx2 (fun i hi => hm i (by omega)) l 0 I (by omega) Fr.rf rfl (fun i _ _ => rfl) hr0 hcap hp (fun n => ?_) ?_ hs01
      · rw [h.1]
        omega
      · omega
    | succ d ih =>
      intro j x hd hx hx2 hm
      obtain ⟨g1, g2, g3, g4⟩ := h.2.1 j (by omega)
      have d1 := g2.1
      have d2 := g2.2.1
      have t38 : I 38 ((j : Int).toNat) = (g j : Int) := by rw [Int.toNat_natCast]; exact g1
      have rb := hrb _ d1
      refine B_X7_push_5 hK (n7a := by omega) (n7b := by omega) (kt := fun z => absurd z (by omega)) (kf := fun _ => ?_)
      refine B_X7_push_10 hK hs (b19 := by omega) (b20 := by rw [t38]; omega) (n26a := by rw [t38, Int.toNat_natCast]; omega) (n26b := by omega) (kt := fun z => ?_) (kf := fun z => ?_)
      · rw [t38, Int.toNat_natCast] at z
        refine B_X7_push_34 hK (k := ?_)
        refine B_X7_push_35 hK (k := ?_)
        refine ih (j + 1) x (by omega) hx hx2 (fun i hi => ?_)
        by_cases y : i = j
        · rw [y]; exact z
        · exact hm i (by omega)
      · rw [t38, Int.toNat_natCast] at z ⊢
        refine B_X7_push_29 hK (k := ?_)
        refine B_X7_push_35 hK (k := ?_)
        refine ih (j + 1) _ (by omega) d2 (by omega) (fun i hi => ?_)
        by_cases y : i = j
        · rw [y]; exact Int.le_refl _
        · have := hm i (by omega)
          omega
  exact walk1 l 0 268435456 (by omega) (by decide) (by decide) (fun i hi => absurd hi (by omega))
