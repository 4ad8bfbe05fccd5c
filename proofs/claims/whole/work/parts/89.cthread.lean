/-! the class threads a path -/
/-- an edge that is open and on a cheapest way -/
def adm (I : Nat → Nat → Int) (m : Nat) (u v : Nat → Nat) (w : Nat → Int) (e : Nat) : Prop := e < 2 * m ∧ 0 < I 33 e ∧ I 37 (eF u v e) + eC w e = I 37 (eT u v e)
def pth (I J : Nat → Nat → Int) (m N : Nat) (u v : Nat → Nat) (w : Nat → Int) (l : Nat) (nd g : Nat → Nat) : Prop := nd 0 = 0 ∧ (∀ i, i < l → J 38 i = (g i : Int) ∧ adm I m u v w (g i) ∧ eF u v (g i) = nd i ∧ eT u v (g i) = nd (i + 1)) ∧ (∀ i j, i ≤ l → j ≤ l → nd i = nd j → i = j) ∧ ∀ i, i ≤ l → nd i < N
/-- seen is told by 0 and 1; arcs are edges of their node -/
def thS (J : Nat → Nat → Int) (m N : Nat) (u v : Nat → Nat) : Prop := (∀ n, n < N → J 40 n = 0 ∨ J 40 n = 1) ∧ ∀ n, n < N → ∃ k, k ≤ 2 * m ∧ J 39 n = lst (eF u v) n k
/-- what holds in the first search of a round -/
def thF (I J : Nat → Nat → Int) (m N : Nat) (u v : Nat → Nat) (w : Nat → Int) (l t : Nat) (nd : Nat → Nat) (a : Nat) (p : Nat → Nat) : Prop :=
  t + l = 2 * a ∧ (∀ i, i ≤ a → p i < N) ∧ (∀ i j, i ≤ a → j ≤ a → p i = p j → i = j) ∧ (∀ n, n < N → J 40 n = 1 → ∃ i, i ≤ a ∧ p i = n) ∧ (∃ i, i ≤ a ∧ p i = nd l) ∧
  (∀ n e, n < N → J 40 n = 1 → adm I m u v w e → eF u v e = n → J 40 (eT u v e) = 1 ∨ eT u v e = nd l ∨ (e : Int) ≤ J 39 n) ∧
  (∀ n, n < N → J 40 n = 1 → (∀ i, i ≤ l → nd i ≠ n) → J 39 n < 0) ∧ J 40 1 = 0 ∧ (∀ n, n < N → J 40 n = 0 → J 39 n = lst (eF u v) n (2 * m)) ∧ ∀ i, i ≤ a → J 40 (p i) = 1 ∨ p i = nd l
abbrev FrT3 (I J : Nat → Nat → Int) : Prop := Fr [38, 39, 40] [] I J
set_option maxHeartbeats 4000000 in
set_option maxRecDepth 4000 in
theorem s_thread {sh : oS} {I : Nat → Nat → Int} {L : Nat → Nat → Int64} {Q : oQ} (hs : Sh sh) {m N : Nat} {u v : Nat → Nat} {w : Nat → Int} (hn : nNet I m N u v w) (hN2 : 2 ≤ N) (hl : ∀ i, i < m → u i < N ∧ v i < N) (hw : ∀ i, i < m → -7 ≤ w i ∧ w i ≤ 7) (hr : ∀ e, e < 2 * m → 0 ≤ I 33 e ∧ I 33 e ≤ 2000000000) (hd : ∀ n, n < N → -2268 ≤ I 37 n ∧ I 37 n ≤ 268435456) (hS : thS I m N u v) (fst : Prop) (hF : fst → ∀ n, n < N → I 40 n = 0 ∧ I 39 n = lst (eF u v) n (2 * m))
    (k : ∀ J (r : Int), FrT3 I J → thS J m N u v → ((r = 0 ∧ (fst → ∃ R : Nat → Prop, R 0 ∧ ¬ R 1 ∧ ∀ e, adm I m u v w e → R (eF u v e) → R (eT u v e))) ∨ ∃ (l : Nat) (nd g : Nat → Nat), r = (l : Int) ∧ 1 ≤ l ∧ l < 324 ∧ nd l = 1 ∧ pth I J m N u v w l nd g) → Q (some (vI r)) (sh, J, L)) : T_X7_thread [vR 31] (sh, I, L) Q := by
  refine And.intro (Nat.le_of_ble_eq_true rfl) (fun K hK => ?_)
  obtain ⟨n1, n2, n3, n4, n5, n6⟩ := hn
  have hcb : ∀ e, e < 2 * m → -7 ≤ eC w e ∧ eC w e ≤ 7 := fun e he => eC_bd hw he
  have hfl : ∀ e, e < 2 * m → eF u v e < N := fun e he => (e_lt hl he).1
  have htl : ∀ e, e < 2 * m → eT u v e < N := fun e he => (e_lt hl he).2
  have lN : ∀ {J : Nat → Nat → Int} {l : Nat} {nd g : Nat → Nat}, pth I J m N u v w l nd g → l < N := fun {J l nd g} h => pigeon N l nd h.2.2.2 h.2.2.1
  -- where a node's edges are looked at
  have scan : ∀ (kk : Nat) (J : Nat → Nat → Int) (x l t left : Nat), kk ≤ 2 * m → kk ≤ left → left ≤ 2548 → x < N → FrT3 I J → thS J m N u v → (∀ k2, k2 ≤ kk → (∀ e, e < kk → eF u v e = x → adm I m u v w e → J 40 (eT u v e) = 0 → e < k2) → (∀ e : Nat, lst (eF u v) x k2 = (e : Int) → adm I m u v w e ∧ J 40 (eT u v e) = 0) → K 121 [some (vR 31), some (vI (x : Int)), some (vI (l : Int)), some (vI (t : Int)), some (vI (lst (eF u v) x k2)), none] [] (sh, J, L) (0, 0)) → K 39 [some (vR 31), some (vI (x : Int)), some (vI (l : Int)), some (vI (t : Int)), some (vI (lst (eF u v) x kk)), some (vI (left : Int))] [] (sh, J, L) (0, 0) := by
    intro kk
    induction kk using Nat.strongRecOn with
    | ind kk ih =>
      intro J x l t left g1 g2 g3 hx FJ hSJ cont
      have bd := lst_bd (eF u v) x kk
      refine B_X7_thread_39 hK (n41 := by omega) (kt := fun z => ?_) (kf := fun z => ?_)
      · have : kk = 0 := by omega
        subst this
        exact cont 0 (Nat.le_refl _) (fun e he => absurd he (by omega)) (fun e he => by simp only [lst] at he; omega)
      refine B_X7_thread_44 hK (n46 := by omega) (kt := fun z2 => ?_) (kf := fun z2 => ?_)
      · exact cont kk (Nat.le_refl _) (fun e he _ _ _ => he) (fun e he => by omega)
      obtain ⟨e, he⟩ := Int.eq_ofNat_of_zero_le (show 0 ≤ lst (eF u v) x kk by omega)
      obtain ⟨a1, a2, a3⟩ := lst_is _ _ _ _ he
      have he2 : e < 2 * m := by omega
      rw [he]
      have c1 := hcb e he2
      have c3 := htl e he2
      have c4 := hr e he2
      have d1 := hd x hx
      have d2 := hd _ c3
      obtain ⟨w1, w2, w3⟩ := n5 e he2
      have r33 : J 33 ((e : Int).toNat) = I 33 e := by rw [Int.toNat_natCast]; exact FJ 33 e (by decide) (by simp)
      have r32 : J 32 ((e : Int).toNat) = (eT u v e : Int) := by rw [Int.toNat_natCast, FJ 32 e (by decide) (by simp)]; exact w1
      have r34 : J 34 ((e : Int).toNat) = eC w e := by rw [Int.toNat_natCast, FJ 34 e (by decide) (by simp)]; exact w2
      have ty : (J 32 ((e : Int).toNat)).toNat = eT u v e := by rw [r32, Int.toNat_natCast]
      have x37 : J 37 ((x : Int).toNat) = I 37 x := by rw [Int.toNat_natCast]; exact FJ 37 x (by decide) (by simp)
      have y37 : J 37 (eT u v e) = I 37 (eT u v e) := FJ 37 _ (by decide) (by simp)
      have sn01 := hSJ.1 _ c3
      -- on to the next
      have nx : ¬ (adm I m u v w e ∧ J 40 (eT u v e) = 0) → K 106 [some (vR 31), some (vI (x : Int)), some (vI (l : Int)), some (vI (t : Int)), some (vI (e : Int)), some (vI (left : Int))] [] (sh, J, L) (0, 0) := by
        intro no
        refine B_X7_thread_106 hK hs (b112 := by omega) (k := ?_)
        have e35 : J 35 ((e : Int).toNat) = lst (eF u v) x e := by
          rw [Int.toNat_natCast, FJ 35 e (by decide) (by simp), w3, a2]
        rw [e35, show (left : Int) + (-1) = ((left - 1 : Nat) : Int) by omega]
        refine ih e a1 J x l t (left - 1) (by omega) (by omega) (by omega) hx FJ hSJ (fun k2 q1 q2 q3 => ?_)
        refine cont k2 (by omega) (fun y y1 y2 y3 y4 => ?_) q3
        rcases Nat.lt_trichotomy y e with z5 | z5 | z5
        · exact q2 y z5 y2 y3 y4
        · subst z5
          exact absurd ⟨y3, y4⟩ no
        · exact absurd y2 (a3 y z5 y1)
      refine B_X7_thread_49 hK hs (b55 := by omega) (n56 := by rw [r33]; omega) (kt := fun y => nx (fun z5 => ?_)) (kf := fun y => ?_)
      · rw [r33] at y
        have := z5.1.2.1
        omega
      rw [r33] at y
      refine B_X7_thread_59 hK hs (b69 := by omega) (b70 := by rw [r32]; omega) (n71 := by rw [ty]; omega) (kt := fun y2 => nx (fun z5 => ?_)) (kf := fun y2 => ?_)
      · rw [ty] at y2
        exact y2 z5.2
      rw [ty] at y2
      refine B_X7_thread_74 hK hs (b79 := by omega) (b86 := by omega) (b99 := by rw [r32]; omega) (n100a := by rw [x37, r34]; omega) (n100b := by rw [ty, y37]; omega) (kt := fun y3 => nx (fun z5 => ?_)) (kf := fun y3 => ?_)
      · rw [x37, r34, ty, y37] at y3
        have := z5.1.2.2
        rw [a2] at this
        exact y3 this
      rw [x37, r34, ty, y37] at y3
      refine B_X7_thread_103 hK (k := ?_)
      rw [← he]
      refine cont kk (Nat.le_refl _) (fun y y1 _ _ _ => y1) (fun e' he' => ?_)
      have : e' = e := by omega
      subst this
      exact ⟨⟨he2, by omega, by rw [a2]; exact Classical.not_not.1 y3⟩, Classical.not_not.1 y2⟩
  -- turns
  have outer : ∀ (d t : Nat) (J : Nat → Nat → Int) (l : Nat) (nd g : Nat → Nat), t + d = 648 → FrT3 I J → thS J m N u v → pth I J m N u v w l nd g → (∀ i, i < l → J 40 (nd i) = 1) → (fst → ∃ a p, thF I J m N u v w l t nd a p) → K 6 [some (vR 31), some (vI (nd l : Int)), some (vI (l : Int)), some (vI (t : Int)), none, none] [] (sh, J, L) (0, 0) := by
    intro d
    induction d with
    | zero =>
      intro t J l nd g ht FJ hSJ hp hsn hfst
      have ll := lN hp
      have nb := hp.2.2.2 l (Nat.le_refl _)
      refine B_X7_thread_6 hK (n10a := by omega) (kt := fun _ => ?_) (kf := fun z => absurd (by omega) z)
      refine B_X7_thread_188 hK (n190a := by omega) (kt := fun z => ?_) (kf := fun z => ?_)
      · refine B_X7_thread_197 hK (k := ?_)
        refine B_X7_thread_198 hK (k := ?_)
        refine k J 0 FJ hSJ (Or.inl ⟨rfl, fun hf => ?_⟩)
        obtain ⟨a, p, f1, f2, f3, -⟩ := hfst hf
        have := pigeon N a p f2 f3
        omega
      · refine B_X7_thread_193 hK (k := ?_)
        refine B_X7_thread_198 hK (k := ?_)
        have e1 : nd l = 1 := by omega
        have l1 : 1 ≤ l := by
          apply Classical.byContradiction
          intro z2
          have : l = 0 := by omega
          subst this
          have := hp.1
          omega
        exact k J _ FJ hSJ (Or.inr ⟨l, nd, g, rfl, l1, by omega, e1, hp⟩)
    | succ d ih =>
      intro t J l nd g ht FJ hSJ hp hsn hfst
      have ll := lN hp
      have nb := hp.2.2.2 l (Nat.le_refl _)
      refine B_X7_thread_6 hK (n10a := by omega) (kt := fun z => absurd z (by omega)) (kf := fun _ => ?_)
      refine B_X7_thread_13 hK (n15a := by omega) (kt := fun z => ?_) (kf := fun z => ?_)
      · refine B_X7_thread_188 hK (n190a := by omega) (kt := fun z2 => absurd z z2) (kf := fun z2 => ?_)
        refine B_X7_thread_193 hK (k := ?_)
        refine B_X7_thread_198 hK (k := ?_)
        have e1 : nd l = 1 := by omega
        have l1 : 1 ≤ l := by
          apply Classical.byContradiction
          intro z2
          have : l = 0 := by omega
          subst this
          have := hp.1
          omega
        exact k J _ FJ hSJ (Or.inr ⟨l, nd, g, rfl, l1, by omega, e1, hp⟩)
      have nx1 : nd l ≠ 1 := by omega
      obtain ⟨k0, k1, k2⟩ := hSJ.2 _ nb
      refine B_X7_thread_18 hK hs (b24 := by omega) (k := ?_)
      rw [Int.toNat_natCast, k2, FJ 31 10 (by decide) (by simp), n1, show 2 * (m : Int) = ((2 * m : Nat) : Int) by omega]
      -- the node is marked
      have FM : FrT3 I (u2 J 40 (nd l) 1) := FJ.u 40 _ _ (by simp)
      have m40 : ∀ n, n ≠ nd l → (u2 J 40 (nd l) 1) 40 n = J 40 n := fun n hh => uK hh
      have m40x : (u2 J 40 (nd l) 1) 40 (nd l) = 1 := uA
      have m39 : (u2 J 40 (nd l) 1) 39 = J 39 := u2_oth (by decide)
      have m38 : (u2 J 40 (nd l) 1) 38 = J 38 := u2_oth (by decide)
      generalize u2 J 40 (nd l) 1 = M at *
      have hSM : thS M m N u v := ⟨fun n hh => by
        by_cases e : n = nd l
        · rw [e, m40x]; exact Or.inr rfl
        · rw [m40 n e]; exact hSJ.1 n hh, fun n hh => by rw [m39]; exact hSJ.2 n hh⟩
      have snM : ∀ i, i ≤ l → M 40 (nd i) = 1 := fun i hi => by
        by_cases e : nd i = nd l
        · rw [e, m40x]
        · rw [m40 _ e]
          exact hsn i (by rcases Nat.lt_or_ge i l with y | y; exact y; exact absurd (by rw [show i = l by omega]) e)
      have mono : ∀ n, J 40 n = 1 → M 40 n = 1 := fun n h1 => by
        by_cases e : n = nd l
        · rw [e, m40x]
        · rw [m40 n e]; exact h1
      refine scan k0 M (nd l) l t (2 * m) k1 k1 n2 nb FM hSM (fun kq q1 q2 q3 => ?_)
      have bdq := lst_bd (eF u v) (nd l) kq
      refine B_X7_thread_121 hK hs (b128 := by omega) (n131 := by omega) (kt := fun y => ?_) (kf := fun y => ?_)
      · -- it leads nowhere
        rw [Int.toNat_natCast]
        have none : ∀ e, adm I m u v w e → eF u v e = nd l → M 40 (eT u v e) = 1 ∨ (k0 ≤ e) := fun e he1 he2 => by
          rcases Nat.lt_or_ge e k0 with y2 | y2
          · rcases hSM.1 _ (htl e he1.1) with y3 | y3
            · have := q2 e y2 he2 he1 y3
              exact absurd he2 (lst_no _ _ _ y e this)
            · exact Or.inl y3
          · exact Or.inr y2
        have FA : FrT3 I (u2 M 39 (nd l) (lst (eF u v) (nd l) kq)) := FM.u 39 _ _ (by simp)
        have a39 : ∀ n, n ≠ nd l → (u2 M 39 (nd l) (lst (eF u v) (nd l) kq)) 39 n = J 39 n := fun n hh => by rw [uK hh, m39]
        have a39x : (u2 M 39 (nd l) (lst (eF u v) (nd l) kq)) 39 (nd l) = lst (eF u v) (nd l) kq := uA
        have a40 : (u2 M 39 (nd l) (lst (eF u v) (nd l) kq)) 40 = M 40 := u2_oth (by decide)
        have a38 : (u2 M 39 (nd l) (lst (eF u v) (nd l) kq)) 38 = J 38 := by rw [u2_oth (by decide), m38]
        generalize u2 M 39 (nd l) (lst (eF u v) (nd l) kq) = A at *
        have hSA : thS A m N u v := ⟨fun n hh => by rw [a40]; exact hSM.1 n hh, fun n hh => by
          by_cases e : n = nd l
          · rw [e, a39x]; exact ⟨kq, by omega, rfl⟩
          · rw [a39 n e]; exact hSJ.2 n hh⟩
        -- edges of nodes that were seen
        have ed : ∀ a p, thF I J m N u v w l t nd a p → ∀ n e, n < N → A 40 n = 1 → adm I m u v w e → eF u v e = n → A 40 (eT u v e) = 1 ∨ (e : Int) ≤ A 39 n := by
          intro a p f n e hn1 hn2 he1 he2
          rw [a40] at hn2 ⊢
          by_cases e3 : n = nd l
          · subst e3
            rcases none e he1 he2 with y2 | y2
            · exact Or.inl y2
            · by_cases e4 : J 40 (nd l) = 1
              · rcases f.2.2.2.2.2.1 _ e hn1 e4 he1 he2 with y3 | y3 | y3
                · exact Or.inl (mono _ y3)
                · rw [y3]; exact Or.inl m40x
                · rw [k2] at y3
                  have := (lst_bd (eF u v) (nd l) k0).2
                  omega
              · have := f.2.2.2.2.2.2.2.2.1 _ hn1 (by rcases hSJ.1 _ hn1 with y3 | y3; exact y3; exact absurd y3 e4)
                rw [k2] at this
                exfalso
                have l1 := he1.1
                have b0 := (lst_bd (eF u v) (nd l) k0).2
                -- edges at k0 or above: lst of all is lst of k0, so none lies above
                rcases Int.lt_or_le (lst (eF u v) (nd l) (2 * m)) 0 with y5 | y5
                · exact lst_no _ _ _ y5 e l1 he2
                · obtain ⟨z, hz⟩ := Int.eq_ofNat_of_zero_le y5
                  obtain ⟨z1, z2, z3⟩ := lst_is _ _ _ _ hz
                  exact z3 e (by omega) l1 he2
          · rw [m40 n e3] at hn2
            rcases f.2.2.2.2.2.1 _ e hn1 hn2 he1 he2 with y3 | y3 | y3
            · exact Or.inl (mono _ y3)
            · rw [y3]; exact Or.inl m40x
            · rw [a39 n e3]; exact Or.inr y3
        refine B_X7_thread_156 hK (n157 := by omega) (kt := fun y2 => ?_) (kf := fun y2 => ?_)
        · -- at the beginning: nothing is found
          have l0 : l = 0 := by omega
          refine B_X7_thread_180 hK (k := ?_)
          refine k A 0 FA hSA (Or.inl ⟨rfl, fun hf => ?_⟩)
          obtain ⟨a, p, f⟩ := hfst hf
          refine ⟨fun n => n < N ∧ A 40 n = 1, ⟨by omega, ?_⟩, fun z2 => ?_, fun e he1 hR => ?_⟩
          · rw [a40, ← hp.1]
            exact snM 0 (by omega)
          · have := z2.2
            rw [a40, m40 1 (fun z3 => nx1 z3.symm), f.2.2.2.2.2.2.2.1] at this
            omega
          · refine ⟨htl e he1.1, ?_⟩
            rcases ed a p f _ e hR.1 hR.2 he1 rfl with y3 | y3
            · exact y3
            · exfalso
              by_cases e4 : eF u v e = nd l
              · rw [e4, a39x] at y3
                omega
              · have h2 := hR.2
                rw [a40, m40 _ e4] at h2
                rw [a39 _ e4] at y3
                have := f.2.2.2.2.2.2.1 _ hR.1 h2 (fun i hi z5 => e4 (by rw [← z5, show i = l by omega]))
                omega
        · -- back
          obtain ⟨l', rfl⟩ : ∃ l', l = l' + 1 := ⟨l - 1, by omega⟩
          obtain ⟨g1, g2, g3, g4⟩ := hp.2.1 l' (by omega)
          have t38 : A 38 (((l' + 1 : Nat) : Int) + (-1)).toNat = (g l' : Int) := by
            rw [show (((l' + 1 : Nat) : Int) + (-1)).toNat = l' by omega, a38]
            exact g1
          have gl := g2.1
          have fx : fXor (A 38 (((l' + 1 : Nat) : Int) + (-1)).toNat) 1 = (mate (g l') : Int) := by rw [t38, fXor1 (by omega)]
          have ml := mate_lt gl
          refine B_X7_thread_160 hK hs (b172 := by omega) (b175 := by rw [fx]; omega) (k := ?_)
          rw [fx, Int.toNat_natCast, FA 32 _ (by decide) (by simp), (n5 _ ml).1, eT_mate, g3, show ((l' + 1 : Nat) : Int) + (-1) = (l' : Int) by omega]
          refine B_X7_thread_182 hK (k := ?_)
          refine ih (t + 1) A l' nd g (by omega) FA hSA ⟨hp.1, fun i hi => by rw [a38]; exact hp.2.1 i (by omega), fun i j hi hj => hp.2.2.1 i j (by omega) (by omega), fun i hi => hp.2.2.2 i (by omega)⟩ (fun i hi => by rw [a40]; exact snM i (by omega)) (fun hf => ?_)
          obtain ⟨a, p, f⟩ := hfst hf
          have f' := f
          obtain ⟨f1, f2, f3, f4, f5, f6, f7, f8, f9, f10⟩ := f
          have sp : ∀ i, i ≤ a → M 40 (p i) = 1 := fun i hi => by
            rcases f10 i hi with y3 | y3
            · exact mono _ y3
            · rw [y3]; exact m40x
          refine ⟨a, p, by omega, f2, f3, fun n hn1 hn2 => ?_, ?_, fun n e hn1 hn2 he1 he2 => ?_, fun n hn1 hn2 hn3 => ?_, ?_, fun n hn1 hn2 => ?_, fun i hi => Or.inl (by rw [a40]; exact sp i hi)⟩
          · rw [a40] at hn2
            by_cases e4 : n = nd (l' + 1)
            · rw [e4]; exact f5
            · rw [m40 n e4] at hn2
              exact f4 n hn1 hn2
          · refine f4 _ (hp.2.2.2 l' (by omega)) ?_
            exact hsn l' (by omega)
          · rcases ed a p f' n e hn1 hn2 he1 he2 with y3 | y3
            · exact Or.inl y3
            · exact Or.inr (Or.inr y3)
          · by_cases e4 : n = nd (l' + 1)
            · rw [e4, a39x]; omega
            · rw [a39 n e4]
              rw [a40, m40 n e4] at hn2
              refine f7 n hn1 hn2 (fun i hi z5 => ?_)
              by_cases e5 : i = l' + 1
              · rw [e5] at z5; exact e4 z5.symm
              · exact hn3 i (by omega) z5
          · rw [a40, m40 1 (fun z3 => nx1 z3.symm)]
            exact f8
          · rw [a40] at hn2
            have e4 : n ≠ nd (l' + 1) := fun z5 => by rw [z5, m40x] at hn2; omega
            rw [m40 n e4] at hn2
            rw [a39 n e4]
            exact f9 n hn1 hn2
      · -- on
        obtain ⟨e, he⟩ := Int.eq_ofNat_of_zero_le (show 0 ≤ lst (eF u v) (nd l) kq by omega)
        obtain ⟨b1, b2, b3⟩ := lst_is _ _ _ _ he
        obtain ⟨c1, c2⟩ := q3 e he
        have el := c1.1
        have tl := htl e el
        rw [Int.toNat_natCast, he]
        have FA : FrT3 I (u2 M 39 (nd l) (e : Int)) := FM.u 39 _ _ (by simp)
        have a39 : ∀ n, n ≠ nd l → (u2 M 39 (nd l) (e : Int)) 39 n = J 39 n := fun n hh => by rw [uK hh, m39]
        have a39x : (u2 M 39 (nd l) (e : Int)) 39 (nd l) = (e : Int) := uA
        have a40 : (u2 M 39 (nd l) (e : Int)) 40 = M 40 := u2_oth (by decide)
        have a38 : (u2 M 39 (nd l) (e : Int)) 38 = J 38 := by rw [u2_oth (by decide), m38]
        generalize u2 M 39 (nd l) (e : Int) = A at *
        refine B_X7_thread_134 hK hs (b141 := by omega) (b151 := by omega) (k := ?_)
        rw [Int.toNat_natCast, Int.toNat_natCast, FA 32 _ (by decide) (by simp), (n5 e el).1]
        refine B_X7_thread_182 hK (k := ?_)
        have FB : FrT3 I (u2 A 38 l (e : Int)) := FA.u 38 _ _ (by simp)
        have z39 : (u2 A 38 l (e : Int)) 39 = A 39 := u2_oth (by decide)
        have z40 : (u2 A 38 l (e : Int)) 40 = M 40 := by rw [u2_oth (by decide), a40]
        have z38 : ∀ i, i ≠ l → (u2 A 38 l (e : Int)) 38 i = J 38 i := fun i hi => by rw [uK hi, a38]
        have z38x : (u2 A 38 l (e : Int)) 38 l = (e : Int) := uA
        generalize u2 A 38 l (e : Int) = Z at *
        have ndx : ∀ i, i ≤ l → ex nd (l + 1) (eT u v e) i = nd i := fun i hi => ex_ne (by omega)
        have fresh : ∀ i, i ≤ l → nd i ≠ eT u v e := fun i hi z5 => by
          have := snM i hi
          rw [z5, c2] at this
          omega
        have := ih (t + 1) Z (l + 1) (ex nd (l + 1) (eT u v e)) (ex g l e) (by omega) FB ⟨fun n hh => by rw [z40]; exact hSM.1 n hh, fun n hh => by
          rw [z39]
          by_cases e4 : n = nd l
          · rw [e4, a39x, ← he]; exact ⟨kq, by omega, rfl⟩
          · rw [a39 n e4]; exact hSJ.2 n hh⟩ ⟨by rw [ndx 0 (by omega)]; exact hp.1, fun i hi => ?_, fun i j hi hj hh => ?_, fun i hi => ?_⟩ (fun i hi => by rw [z40, ndx i (by omega)]; exact snM i (by omega)) (fun hf => ?_)
        · rw [ex_at] at this
          exact this
        · by_cases e4 : i = l
          · subst e4
            rw [z38x, ex_at, ex_at, ndx i (by omega)]
            exact ⟨rfl, c1, b2, rfl⟩
          · rw [z38 i e4, ex_ne e4, ndx i (by omega), ndx (i + 1) (by omega)]
            exact hp.2.1 i (by omega)
        · by_cases e4 : i = l + 1
          · by_cases e5 : j = l + 1
            · omega
            · rw [e4, ex_at, ndx j (by omega)] at hh
              exact absurd hh.symm (fresh j (by omega))
          · by_cases e5 : j = l + 1
            · rw [e5, ex_at, ndx i (by omega)] at hh
              exact absurd hh (fresh i (by omega))
            · rw [ndx i (by omega), ndx j (by omega)] at hh
              exact hp.2.2.1 i j (by omega) (by omega) hh
        · by_cases e4 : i = l + 1
          · rw [e4, ex_at]; exact tl
          · rw [ndx i (by omega)]; exact hp.2.2.2 i (by omega)
        · obtain ⟨a, p, f1, f2, f3, f4, f5, f6, f7, f8, f9, f10⟩ := hfst hf
          have sp : ∀ i, i ≤ a → M 40 (p i) = 1 := fun i hi => by
            rcases f10 i hi with y3 | y3
            · exact mono _ y3
            · rw [y3]; exact m40x
          have px : ∀ i, i ≤ a → ex p (a + 1) (eT u v e) i = p i := fun i hi => ex_ne (by omega)
          have pf : ∀ i, i ≤ a → p i ≠ eT u v e := fun i hi z5 => by
            have := sp i hi
            rw [z5, c2] at this
            omega
          refine ⟨a + 1, ex p (a + 1) (eT u v e), by omega, fun i hi => ?_, fun i j hi hj hh => ?_, fun n hn1 hn2 => ?_, ⟨a + 1, Nat.le_refl _, by rw [ex_at, ex_at]⟩, fun n y hn1 hn2 hy1 hy2 => ?_, fun n hn1 hn2 hn3 => ?_, ?_, fun n hn1 hn2 => ?_, fun i hi => ?_⟩
          · by_cases e4 : i = a + 1
            · rw [e4, ex_at]; exact tl
            · rw [px i (by omega)]; exact f2 i (by omega)
          · by_cases e4 : i = a + 1
            · by_cases e5 : j = a + 1
              · omega
              · rw [e4, ex_at, px j (by omega)] at hh
                exact absurd hh.symm (pf j (by omega))
            · by_cases e5 : j = a + 1
              · rw [e5, ex_at, px i (by omega)] at hh
                exact absurd hh (pf i (by omega))
              · rw [px i (by omega), px j (by omega)] at hh
                exact f3 i j (by omega) (by omega) hh
          · rw [z40] at hn2
            by_cases e4 : n = nd l
            · obtain ⟨i, i1, i2⟩ := f5
              exact ⟨i, by omega, by rw [px i i1, i2, e4]⟩
            · rw [m40 n e4] at hn2
              obtain ⟨i, i1, i2⟩ := f4 n hn1 hn2
              exact ⟨i, by omega, by rw [px i i1, i2]⟩
          · rw [z40] at hn2 ⊢
            rw [z39, ex_at]
            by_cases e4 : n = nd l
            · subst e4
              rw [a39x]
              rcases Nat.lt_or_ge e y with y2 | y2
              · -- behind the edge that was taken
                refine Or.inl ?_
                rcases Nat.lt_or_ge y k0 with y3 | y3
                · rcases hSM.1 _ (htl y hy1.1) with y4 | y4
                  · have := q2 y y3 hy2 hy1 y4
                    exact absurd hy2 (b3 y y2 this)
                  · exact y4
                · by_cases e6 : J 40 (nd l) = 1
                  · rcases f6 _ y hn1 e6 hy1 hy2 with y5 | y5 | y5
                    · exact mono _ y5
                    · rw [y5]; exact m40x
                    · rw [k2] at y5
                      have := (lst_bd (eF u v) (nd l) k0).2
                      omega
                  · have h9 := f9 _ hn1 (by rcases hSJ.1 _ hn1 with y5 | y5; exact y5; exact absurd y5 e6)
                    rw [k2] at h9
                    exfalso
                    have b0 := (lst_bd (eF u v) (nd l) k0).2
                    rcases Int.lt_or_le (lst (eF u v) (nd l) (2 * m)) 0 with y5 | y5
                    · exact lst_no _ _ _ y5 y hy1.1 hy2
                    · obtain ⟨z2, hz⟩ := Int.eq_ofNat_of_zero_le y5
                      obtain ⟨z3, z4, z5⟩ := lst_is _ _ _ _ hz
                      exact z5 y (by omega) hy1.1 hy2
              · exact Or.inr (Or.inr (by omega))
            · rw [a39 n e4]
              rw [m40 n e4] at hn2
              rcases f6 n y hn1 hn2 hy1 hy2 with y3 | y3 | y3
              · exact Or.inl (mono _ y3)
              · rw [y3]; exact Or.inl m40x
              · exact Or.inr (Or.inr y3)
          · rw [z40] at hn2
            rw [z39]
            have e4 : n ≠ nd l := fun z5 => hn3 l (by omega) (by rw [ndx l (Nat.le_refl _), z5])
            rw [a39 n e4]
            rw [m40 n e4] at hn2
            exact f7 n hn1 hn2 (fun i hi z5 => hn3 i (by omega) (by rw [ndx i hi, z5]))
          · rw [z40, m40 1 (fun z3 => nx1 z3.symm)]
            exact f8
          · rw [z40] at hn2
            have e4 : n ≠ nd l := fun z5 => by rw [z5, m40x] at hn2; omega
            rw [m40 n e4] at hn2
            rw [z39, a39 n e4]
            exact f9 n hn1 hn2
          · by_cases e4 : i = a + 1
            · rw [e4, ex_at, ex_at]; exact Or.inr rfl
            · rw [px i (by omega), z40]
              exact Or.inl (sp i (by omega))
  refine B_X7_thread_0 hK (k := ?_)
  refine outer 648 0 I 0 (fun _ => 0) (fun _ => 0) (by omega) Fr.rf hS ⟨rfl, fun i hi => absurd hi (by omega), fun i j hi hj _ => by omega, fun i _ => show 0 < N by omega⟩ (fun i hi => absurd hi (by omega)) (fun hf => ⟨0, fun _ => 0, by omega, fun i _ => show 0 < N by omega, fun i j hi hj _ => by omega, fun n hn1 hn2 => ?_, ⟨0, Nat.le_refl _, rfl⟩, fun n e hn1 hn2 => ?_, fun n hn1 hn2 => ?_, (hF hf 1 (by omega)).1, fun n hn1 hn2 => (hF hf n hn1).2, fun i hi => Or.inr rfl⟩)
  · have := (hF hf n hn1).1
    omega
  · have := (hF hf n hn1).1
    omega
  · have := (hF hf n hn1).1
    omega
