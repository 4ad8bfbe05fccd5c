/-! the reference reads the page -/
abbrev FrR (I J : Nat → Nat → Int) : Prop := Fr [58, 59, 60, 61, 62, 63, 64] [(44, 25), (44, 26), (44, 27), (44, 31), (44, 35), (44, 37)] I J
def la0 (I : Nat → Nat → Int) : laS := (0, 0, I 58, I 59, up (I 60) 3 0)
def ma0 (I : Nat → Nat → Int) : maS := (0, 0, 0, 0, I 44 37, I 61, I 62, I 63)
def se0 (I : Nat → Nat → Int) : seS := (0, 0, I 64)
abbrev laE (s : laS) : Prop := s.1 = 12 ∨ 13 < s.1
abbrev maE (s : maS) : Prop := 0 < s.2.1 ∧ (s.1 = 3 ∨ s.1 = 4 ∨ s.1 = 7 ∨ s.1 = 8)
abbrev seE (s : seS) : Prop := 5 < s.1
theorem laOK_0 {I : Nat → Nat → Int} : laOK (la0 I) := by
  refine ⟨?_, ?_, ?_, ?_, ?_, fun p hp => ?_, ?_, ?_, ?_, ?_, ?_, ?_, ?_, ?_, ?_, ?_⟩ <;> (try unfold la0) <;> (try dsimp only) <;> (try omega)
  · unfold la0 at hp
    dsimp only at hp
    omega
  · intro _
    exact up_at
theorem maOK_0 {I : Nat → Nat → Int} : maOK (ma0 I) := by
  refine ⟨?_, ?_, ?_, ?_, ?_, ?_, ?_, ?_, ?_, fun p hp => ?_, fun p hp => ?_⟩ <;> (try unfold ma0) <;> (try dsimp only) <;> (try omega)
  · unfold ma0 at hp
    dsimp only at hp
    omega
  · unfold ma0 at hp
    dsimp only at hp
    omega
theorem seOK_0 {I : Nat → Nat → Int} : seOK (se0 I) := by
  refine ⟨?_, ?_, ?_, ?_, fun p hp => ?_, ?_, ?_, ?_, ?_⟩ <;> (try unfold se0) <;> (try dsimp only) <;> (try omega)
  unfold se0 at hp
  dsimp only at hp
  omega
set_option maxHeartbeats 1000000 in
theorem s_readPage0 {sh : oS} {I : Nat → Nat → Int} {L : Nat → Nat → Int64} {Q : oQ} (hs : Sh sh) (hpg : 0 ≤ I 44 19 ∧ I 44 19 ≤ 60) (hlt : ∀ x : Nat, (x : Int) < I 44 19 → 0 ≤ I 56 x ∧ I 56 x ≤ 127)
    (k : ∀ J (n : Nat) (s : laS), FrR I J → rdEnd laStep (la0 I) (I 56) (I 44 19).toNat n s → J 44 25 = n → J 44 26 = (if (n : Int) = I 44 19 ∧ laE s then 1 else 0) → laOK s → (J 44 26 = 1 → laR s J) → Q none (sh, J, L)) : T_X12_readPage [vR 44, vI 0] (sh, I, L) Q := by
  refine And.intro (Nat.le_of_ble_eq_true rfl) (fun K hK => ?_)
  have fin : ∀ (J : Nat → Nat → Int) (y : Nat) (s : laS), FrR I J → rdEnd laStep (la0 I) (I 56) (I 44 19).toNat y s → laOK s → (y = (I 44 19).toNat → laR s J) → inR (J 44 27) → K 97 [some (vR 44), some (vI 0), some (vI s.1), some (vI (y : Int)), none, none] [] (sh, J, L) (0, 0) := by
    intro J y s FJ hE ok hR hi
    have e19 : J 44 19 = I 44 19 := FJ 44 19 (by decide) (by decide)
    have yl := hE.1
    have o1 := ok.1
    have tail : ∀ e : Int, (e = 0 ∨ e = 1) → ((y : Int) = I 44 19 → (e = 1 ↔ laE s)) → K 178 [some (vR 44), none, none, some (vI (y : Int)), none, none] [vI e] (sh, u2 J 44 25 (y : Int), L) (0, 0) := by
      intro e he h
      have no : ¬ ((y : Int) = I 44 19 ∧ laE s) → K 198 [none, none, none, none, none, none] [vR 44] (sh, u2 J 44 25 (y : Int), L) (0, 0) := fun z => by
        refine B_X12_readPage_198 hK (k := B_X12_readPage_199 hK hs (o199 := Or.inl rfl) (k := ?_))
        exact k _ y s ((FJ.u 44 25 _ (by simp)).u 44 26 _ (by simp)) hE rfl (by rw [if_neg z]; rfl) ok (fun u => absurd u (by show ¬ ((0 : Int) = 1); decide))
      refine B_X12_readPage_178 hK hs (n186a := by omega) (n186b := by show inR (J 44 19); omega) (kt := fun z => no (fun u => z (by show (y : Int) = J 44 19; omega))) (kf := fun z => ?_)
      have ze : (y : Int) = I 44 19 := by
        have z' : (y : Int) = J 44 19 := Classical.not_not.1 z
        omega
      refine B_X12_readPage_189 hK (n191 := by omega) (kt := fun z2 => no (fun u => by have := (h ze).2 u.2; omega)) (kf := fun z2 => ?_)
      have zz : (y : Int) = I 44 19 ∧ laE s := ⟨ze, (h ze).1 (by omega)⟩
      refine B_X12_readPage_194 hK (k := B_X12_readPage_199 hK hs (o199 := Or.inr rfl) (k := ?_))
      exact k _ y s ((FJ.u 44 25 _ (by simp)).u 44 26 _ (by simp)) hE rfl (by rw [if_pos zz]; rfl) ok (fun _ => hR (by omega))
    refine B_X12_readPage_97 hK hs (n103 := by decide) (kt := fun t => absurd rfl t) (kf := fun _ => ?_)
    refine B_X12_readPage_106 hK (n109a := by omega) (kt := fun t => B_X12_readPage_118 hK (k := tail 1 (Or.inr rfl) (fun _ => ⟨fun _ => Or.inl t, fun _ => rfl⟩))) (kf := fun t => ?_)
    exact B_X12_readPage_112 hK (n115a := by omega) (kt := fun t2 => B_X12_readPage_122 hK (k := tail 0 (Or.inl rfl) (fun _ => ⟨fun u => absurd u (by decide), fun u => by omega⟩))) (kf := fun t2 => B_X12_readPage_118 hK (k := tail 1 (Or.inr rfl) (fun _ => ⟨fun _ => Or.inr (by omega), fun _ => rfl⟩)))
  have nxt : ∀ (J : Nat → Nat → Int) (s : laS) (c : Int) (Q2 : oQ), laR s J → laOK s → 0 ≤ c ∧ c ≤ 127 → (∀ r J2, FrL J J2 → laOut (laStep s c) r J2 → Q2 (some (vI r)) (sh, J2, L)) → T_X12_next [vR 44, vI 0, vI s.1, vI c] (sh, J, L) Q2 := by
    intro J s c Q2 hr ok hc kk
    obtain ⟨st, many, F, W, Ld⟩ := s
    obtain ⟨r1, r2, r3, r4⟩ := hr
    dsimp only at r1
    have ok' := ok
    obtain ⟨o1, o2, o3, o4, o5, _⟩ := ok'
    dsimp only at r1 r2 r3 r4
    dsimp only at o1 o2 o3 o4 o5
    subst r1 r2 r3 r4
    refine And.intro (Nat.le_of_ble_eq_true rfl) (fun KN hN => ?_)
    refine B_X12_next_0 hN (n1 := by decide) (kt := fun t => absurd rfl t) (kf := fun _ => ?_)
    refine B_X12_next_4 hN hs (k := ?_)
    refine s_nextLand hs (by omega) hc ⟨by omega, by omega, by omega⟩ (fun r J2 F2 O2 => ?_)
    refine B_X12_next_10 hN (k := B_X12_next_33 hN (k := ?_))
    exact kk r J2 F2 O2
  have lp : ∀ (n y : Nat) (J : Nat → Nat → Int) (s : laS), y + n = (I 44 19).toNat → FrR I J → rdAt laStep (la0 I) (I 56) y = some s → laOK s → laR s J → K 29 [some (vR 44), some (vI 0), some (vI s.1), some (vI (y : Int)), some (vI 1), none] [] (sh, J, L) (0, 0) := by
    intro n
    induction n with
    | zero =>
      intro y J s hn FJ at1 ok hR
      have e19 : J 44 19 = I 44 19 := FJ 44 19 (by decide) (by decide)
      have o2 := ok.2.1
      refine B_X12_readPage_29 hK hs (n34a := by omega) (n34b := by omega) (kt := fun _ => ?_) (kf := fun t => absurd (by omega) t)
      exact fin J y s FJ ⟨by omega, at1, Or.inl (by omega)⟩ ok (fun _ => hR) (by rw [hR.1]; omega)
    | succ n ih =>
      intro y J s hn FJ at1 ok hR
      have e19 : J 44 19 = I 44 19 := FJ 44 19 (by decide) (by decide)
      have e56 : J 56 y = I 56 y := FJ 56 y (by decide) (by simp)
      have hc := hlt y (by omega)
      have o1 := ok.1
      have o2 := ok.2.1
      refine B_X12_readPage_29 hK hs (n34a := by omega) (n34b := by omega) (kt := fun t => absurd t (by omega)) (kf := fun _ => ?_)
      refine B_X12_readPage_37 hK (n39 := by decide) (kt := fun t => absurd t (by decide)) (kf := fun _ => ?_)
      refine B_X12_readPage_42 hK hs (b50 := by omega) (k := ?_)
      rw [Int.toNat_natCast, e56]
      refine nxt J s (I 56 y) _ hR ok hc (fun r J2 F2 O2 => ?_)
      have F3 : FrR I J2 := FJ.tr F2 (by decide) (by decide) (by decide) (by decide)
      have j19 : J2 44 19 = I 44 19 := F3 44 19 (by decide) (by decide)
      cases hq : laStep s (I 56 y) with
      | none =>
        rw [hq] at O2
        have O3 : r = -1 := O2.1
        refine B_X12_readPage_54 hK (n59a := by omega) (kt := fun _ => ?_) (kf := fun t => absurd O3 t)
        refine B_X12_readPage_66 hK (k := ?_)
        refine B_X12_readPage_67 hK (n71 := by decide) (kt := fun _ => ?_) (kf := fun t => absurd rfl t)
        refine B_X12_readPage_79 hK (k := ?_)
        refine B_X12_readPage_80 hK (n84 := by decide) (kt := fun _ => ?_) (kf := fun t => absurd rfl t)
        refine B_X12_readPage_91 hK (k := B_X12_readPage_92 hK (k := ?_))
        refine B_X12_readPage_29 hK hs (n34a := by omega) (n34b := by omega) (kt := fun t => absurd t (by omega)) (kf := fun _ => ?_)
        refine B_X12_readPage_37 hK (n39 := by decide) (kt := fun _ => ?_) (kf := fun t => absurd rfl t)
        rw [Int.add_zero]
        exact fin J2 y s F3 ⟨by omega, at1, Or.inr hq⟩ ok (fun t => absurd t (by omega)) O2.2
      | some s2 =>
        rw [hq] at O2
        have ok2 := laOK_st ok hq
        have o3 := ok2.1
        have O3 : r = s2.1 := O2.1
        refine B_X12_readPage_54 hK (n59a := by omega) (kt := fun t => absurd t (by omega)) (kf := fun _ => ?_)
        refine B_X12_readPage_62 hK (k := ?_)
        refine B_X12_readPage_67 hK (n71 := by decide) (kt := fun t => absurd t (by decide)) (kf := fun _ => ?_)
        refine B_X12_readPage_74 hK (k := ?_)
        refine B_X12_readPage_80 hK (n84 := by decide) (kt := fun t => absurd t (by decide)) (kf := fun _ => ?_)
        refine B_X12_readPage_87 hK (k := B_X12_readPage_92 hK (k := ?_))
        rw [O3]
        exact ih (y + 1) J2 s2 (by omega) F3 (by rw [rdAt_st at1, hq]) ok2 O2.2
  refine B_X12_readPage_0 hK hs (k := ?_)
  refine lp (I 44 19).toNat 0 _ (la0 I) (by omega) ((((Fr.rf.u 44 27 _ (by simp)).u 44 31 _ (by simp)).u 44 35 _ (by simp)).u 60 3 _ (by simp)) rfl laOK_0 ?_
  exact ⟨rfl, rfl, rfl, u2_row⟩
set_option maxHeartbeats 1000000 in
theorem s_readPage1 {sh : oS} {I : Nat → Nat → Int} {L : Nat → Nat → Int64} {Q : oQ} (hs : Sh sh) (hpg : 0 ≤ I 44 19 ∧ I 44 19 ≤ 60) (hlt : ∀ x : Nat, (x : Int) < I 44 19 → 0 ≤ I 56 x ∧ I 56 x ≤ 127)
    (k : ∀ J (n : Nat) (s : maS), FrR I J → rdEnd maStep (ma0 I) (I 56) (I 44 19).toNat n s → J 44 25 = n → J 44 26 = (if (n : Int) = I 44 19 ∧ maE s then 1 else 0) → maOK s → (J 44 26 = 1 → maR s J) → Q none (sh, J, L)) : T_X12_readPage [vR 44, vI 1] (sh, I, L) Q := by
  refine And.intro (Nat.le_of_ble_eq_true rfl) (fun K hK => ?_)
  have fin : ∀ (J : Nat → Nat → Int) (y : Nat) (s : maS), FrR I J → rdEnd maStep (ma0 I) (I 56) (I 44 19).toNat y s → maOK s → (y = (I 44 19).toNat → maR s J) → inR (J 44 27) → K 97 [some (vR 44), some (vI 1), some (vI s.1), some (vI (y : Int)), none, none] [] (sh, J, L) (0, 0) := by
    intro J y s FJ hE ok hR hi
    have e19 : J 44 19 = I 44 19 := FJ 44 19 (by decide) (by decide)
    have yl := hE.1
    have o1 := ok.1
    have tail : ∀ e : Int, (e = 0 ∨ e = 1) → ((y : Int) = I 44 19 → (e = 1 ↔ maE s)) → K 178 [some (vR 44), none, none, some (vI (y : Int)), none, none] [vI e] (sh, u2 J 44 25 (y : Int), L) (0, 0) := by
      intro e he h
      have no : ¬ ((y : Int) = I 44 19 ∧ maE s) → K 198 [none, none, none, none, none, none] [vR 44] (sh, u2 J 44 25 (y : Int), L) (0, 0) := fun z => by
        refine B_X12_readPage_198 hK (k := B_X12_readPage_199 hK hs (o199 := Or.inl rfl) (k := ?_))
        exact k _ y s ((FJ.u 44 25 _ (by simp)).u 44 26 _ (by simp)) hE rfl (by rw [if_neg z]; rfl) ok (fun u => absurd u (by show ¬ ((0 : Int) = 1); decide))
      refine B_X12_readPage_178 hK hs (n186a := by omega) (n186b := by show inR (J 44 19); omega) (kt := fun z => no (fun u => z (by show (y : Int) = J 44 19; omega))) (kf := fun z => ?_)
      have ze : (y : Int) = I 44 19 := by
        have z' : (y : Int) = J 44 19 := Classical.not_not.1 z
        omega
      refine B_X12_readPage_189 hK (n191 := by omega) (kt := fun z2 => no (fun u => by have := (h ze).2 u.2; omega)) (kf := fun z2 => ?_)
      have zz : (y : Int) = I 44 19 ∧ maE s := ⟨ze, (h ze).1 (by omega)⟩
      refine B_X12_readPage_194 hK (k := B_X12_readPage_199 hK hs (o199 := Or.inr rfl) (k := ?_))
      exact k _ y s ((FJ.u 44 25 _ (by simp)).u 44 26 _ (by simp)) hE rfl (by rw [if_pos zz]; rfl) ok (fun _ => hR (by omega))
    have ends : (y : Int) = I 44 19 → J 44 27 = s.2.1 := fun t => (hR (by omega)).1
    have pos : K 138 [some (vR 44), none, some (vI s.1), some (vI (y : Int)), none, none] [] (sh, u2 J 44 25 (y : Int), L) (0, 0) ∨ True := Or.inr trivial
    clear pos
    refine B_X12_readPage_97 hK hs (n103 := by decide) (kt := fun _ => ?_) (kf := fun t => absurd (by decide) t)
    refine B_X12_readPage_126 hK (n128a := by decide) (kt := fun t => absurd rfl t) (kf := fun _ => ?_)
    have no : (¬ (0 < J 44 27 ∧ (s.1 = 3 ∨ s.1 = 4 ∨ s.1 = 7 ∨ s.1 = 8))) → K 164 [some (vR 44), none, none, some (vI (y : Int)), none, none] [] (sh, u2 J 44 25 (y : Int), L) (0, 0) := fun t => B_X12_readPage_164 hK (k := tail 0 (Or.inl rfl) (fun z => ⟨fun u => absurd u (by decide), fun u => absurd (by rw [ends z]; exact u) t⟩))
    have yes : 0 < J 44 27 → (s.1 = 3 ∨ s.1 = 4 ∨ s.1 = 7 ∨ s.1 = 8) → K 160 [some (vR 44), none, none, some (vI (y : Int)), none, none] [] (sh, u2 J 44 25 (y : Int), L) (0, 0) := fun t t2 => B_X12_readPage_160 hK (k := tail 1 (Or.inr rfl) (fun z => ⟨fun _ => ⟨by rw [← ends z]; exact t, t2⟩, fun _ => rfl⟩))
    refine B_X12_readPage_131 hK hs (n135 := hi) (kt := fun t => no (fun u => absurd u.1 (by have t' : J 44 27 ≤ 0 := t; omega))) (kf := fun t => ?_)
    have t' : 0 < J 44 27 := by
      have t' : ¬ (J 44 27 ≤ 0) := t
      omega
    refine B_X12_readPage_138 hK (n140a := by omega) (kt := fun t2 => yes t' (by omega)) (kf := fun t2 => ?_)
    refine B_X12_readPage_143 hK (n145a := by omega) (kt := fun t3 => yes t' (by omega)) (kf := fun t3 => ?_)
    refine B_X12_readPage_148 hK (n151a := by omega) (kt := fun t4 => yes t' (by omega)) (kf := fun t4 => ?_)
    exact B_X12_readPage_154 hK (n157a := by omega) (kt := fun t5 => no (by omega)) (kf := fun t5 => yes t' (by omega))
  have nxt : ∀ (J : Nat → Nat → Int) (s : maS) (c : Int) (Q2 : oQ), maR s J → maOK s → 0 ≤ c ∧ c ≤ 127 → (∀ r J2, FrM J J2 → maOut (maStep s c) r J2 → Q2 (some (vI r)) (sh, J2, L)) → T_X12_next [vR 44, vI 1, vI s.1, vI c] (sh, J, L) Q2 := by
    intro J s c Q2 hr ok hc kk
    obtain ⟨st, many, men, ch, mv, Mv, Mn, Tn⟩ := s
    obtain ⟨r1, r2, r3, r4, r5, r6, r7⟩ := hr
    dsimp only at r1
    have ok' := ok
    obtain ⟨o1, o2, o3, o4, o5, _⟩ := ok'
    dsimp only at r1 r2 r3 r4 r5 r6 r7
    dsimp only at o1 o2 o3 o4 o5
    subst r1 r2 r3 r4 r5 r6 r7
    refine And.intro (Nat.le_of_ble_eq_true rfl) (fun KN hN => ?_)
    refine B_X12_next_0 hN (n1 := by decide) (kt := fun _ => ?_) (kf := fun t => absurd (by decide) t)
    refine B_X12_next_13 hN (n15a := by decide) (kt := fun t => absurd rfl t) (kf := fun _ => ?_)
    refine B_X12_next_18 hN hs (k := ?_)
    refine s_nextMarch hs (by omega) hc (by omega) (by omega) (by omega) (by omega) (fun r J2 F2 O2 => ?_)
    refine B_X12_next_24 hN (k := B_X12_next_33 hN (k := ?_))
    exact kk r J2 F2 O2
  have lp : ∀ (n y : Nat) (J : Nat → Nat → Int) (s : maS), y + n = (I 44 19).toNat → FrR I J → rdAt maStep (ma0 I) (I 56) y = some s → maOK s → maR s J → K 29 [some (vR 44), some (vI 1), some (vI s.1), some (vI (y : Int)), some (vI 1), none] [] (sh, J, L) (0, 0) := by
    intro n
    induction n with
    | zero =>
      intro y J s hn FJ at1 ok hR
      have e19 : J 44 19 = I 44 19 := FJ 44 19 (by decide) (by decide)
      have o2 := ok.2.1
      refine B_X12_readPage_29 hK hs (n34a := by omega) (n34b := by omega) (kt := fun _ => ?_) (kf := fun t => absurd (by omega) t)
      exact fin J y s FJ ⟨by omega, at1, Or.inl (by omega)⟩ ok (fun _ => hR) (by rw [hR.1]; omega)
    | succ n ih =>
      intro y J s hn FJ at1 ok hR
      have e19 : J 44 19 = I 44 19 := FJ 44 19 (by decide) (by decide)
      have e56 : J 56 y = I 56 y := FJ 56 y (by decide) (by simp)
      have hc := hlt y (by omega)
      have o1 := ok.1
      have o2 := ok.2.1
      refine B_X12_readPage_29 hK hs (n34a := by omega) (n34b := by omega) (kt := fun t => absurd t (by omega)) (kf := fun _ => ?_)
      refine B_X12_readPage_37 hK (n39 := by decide) (kt := fun t => absurd t (by decide)) (kf := fun _ => ?_)
      refine B_X12_readPage_42 hK hs (b50 := by omega) (k := ?_)
      rw [Int.toNat_natCast, e56]
      refine nxt J s (I 56 y) _ hR ok hc (fun r J2 F2 O2 => ?_)
      have F3 : FrR I J2 := FJ.tr F2 (by decide) (by decide) (by decide) (by decide)
      have j19 : J2 44 19 = I 44 19 := F3 44 19 (by decide) (by decide)
      cases hq : maStep s (I 56 y) with
      | none =>
        rw [hq] at O2
        have O3 : r = -1 := O2.1
        refine B_X12_readPage_54 hK (n59a := by omega) (kt := fun _ => ?_) (kf := fun t => absurd O3 t)
        refine B_X12_readPage_66 hK (k := ?_)
        refine B_X12_readPage_67 hK (n71 := by decide) (kt := fun _ => ?_) (kf := fun t => absurd rfl t)
        refine B_X12_readPage_79 hK (k := ?_)
        refine B_X12_readPage_80 hK (n84 := by decide) (kt := fun _ => ?_) (kf := fun t => absurd rfl t)
        refine B_X12_readPage_91 hK (k := B_X12_readPage_92 hK (k := ?_))
        refine B_X12_readPage_29 hK hs (n34a := by omega) (n34b := by omega) (kt := fun t => absurd t (by omega)) (kf := fun _ => ?_)
        refine B_X12_readPage_37 hK (n39 := by decide) (kt := fun _ => ?_) (kf := fun t => absurd rfl t)
        rw [Int.add_zero]
        exact fin J2 y s F3 ⟨by omega, at1, Or.inr hq⟩ ok (fun t => absurd t (by omega)) (O2.2)
      | some s2 =>
        rw [hq] at O2
        have ok2 := maOK_st ok hq
        have o3 := ok2.1
        have O3 : r = s2.1 := O2.1
        refine B_X12_readPage_54 hK (n59a := by omega) (kt := fun t => absurd t (by omega)) (kf := fun _ => ?_)
        refine B_X12_readPage_62 hK (k := ?_)
        refine B_X12_readPage_67 hK (n71 := by decide) (kt := fun t => absurd t (by decide)) (kf := fun _ => ?_)
        refine B_X12_readPage_74 hK (k := ?_)
        refine B_X12_readPage_80 hK (n84 := by decide) (kt := fun t => absurd t (by decide)) (kf := fun _ => ?_)
        refine B_X12_readPage_87 hK (k := B_X12_readPage_92 hK (k := ?_))
        rw [O3]
        exact ih (y + 1) J2 s2 (by omega) F3 (by rw [rdAt_st at1, hq]) ok2 O2.2
  refine B_X12_readPage_0 hK hs (k := ?_)
  refine lp (I 44 19).toNat 0 _ (ma0 I) (by omega) ((((Fr.rf.u 44 27 _ (by simp)).u 44 31 _ (by simp)).u 44 35 _ (by simp)).u 60 3 _ (by simp)) rfl maOK_0 ?_
  exact ⟨rfl, rfl, rfl, rfl, rfl, rfl, rfl⟩
set_option maxHeartbeats 1000000 in
theorem s_readPage2 {sh : oS} {I : Nat → Nat → Int} {L : Nat → Nat → Int64} {Q : oQ} (hs : Sh sh) (hpg : 0 ≤ I 44 19 ∧ I 44 19 ≤ 60) (hlt : ∀ x : Nat, (x : Int) < I 44 19 → 0 ≤ I 56 x ∧ I 56 x ≤ 127)
    (k : ∀ J (n : Nat) (s : seS), FrR I J → rdEnd seStep (se0 I) (I 56) (I 44 19).toNat n s → J 44 25 = n → J 44 26 = (if (n : Int) = I 44 19 ∧ seE s then 1 else 0) → seOK s → (J 44 26 = 1 → seR s J) → Q none (sh, J, L)) : T_X12_readPage [vR 44, vI 2] (sh, I, L) Q := by
  refine And.intro (Nat.le_of_ble_eq_true rfl) (fun K hK => ?_)
  have fin : ∀ (J : Nat → Nat → Int) (y : Nat) (s : seS), FrR I J → rdEnd seStep (se0 I) (I 56) (I 44 19).toNat y s → seOK s → (y = (I 44 19).toNat → seR s J) → inR (J 44 27) → K 97 [some (vR 44), some (vI 2), some (vI s.1), some (vI (y : Int)), none, none] [] (sh, J, L) (0, 0) := by
    intro J y s FJ hE ok hR hi
    have e19 : J 44 19 = I 44 19 := FJ 44 19 (by decide) (by decide)
    have yl := hE.1
    have o1 := ok.1
    have tail : ∀ e : Int, (e = 0 ∨ e = 1) → ((y : Int) = I 44 19 → (e = 1 ↔ seE s)) → K 178 [some (vR 44), none, none, some (vI (y : Int)), none, none] [vI e] (sh, u2 J 44 25 (y : Int), L) (0, 0) := by
      intro e he h
      have no : ¬ ((y : Int) = I 44 19 ∧ seE s) → K 198 [none, none, none, none, none, none] [vR 44] (sh, u2 J 44 25 (y : Int), L) (0, 0) := fun z => by
        refine B_X12_readPage_198 hK (k := B_X12_readPage_199 hK hs (o199 := Or.inl rfl) (k := ?_))
        exact k _ y s ((FJ.u 44 25 _ (by simp)).u 44 26 _ (by simp)) hE rfl (by rw [if_neg z]; rfl) ok (fun u => absurd u (by show ¬ ((0 : Int) = 1); decide))
      refine B_X12_readPage_178 hK hs (n186a := by omega) (n186b := by show inR (J 44 19); omega) (kt := fun z => no (fun u => z (by show (y : Int) = J 44 19; omega))) (kf := fun z => ?_)
      have ze : (y : Int) = I 44 19 := by
        have z' : (y : Int) = J 44 19 := Classical.not_not.1 z
        omega
      refine B_X12_readPage_189 hK (n191 := by omega) (kt := fun z2 => no (fun u => by have := (h ze).2 u.2; omega)) (kf := fun z2 => ?_)
      have zz : (y : Int) = I 44 19 ∧ seE s := ⟨ze, (h ze).1 (by omega)⟩
      refine B_X12_readPage_194 hK (k := B_X12_readPage_199 hK hs (o199 := Or.inr rfl) (k := ?_))
      exact k _ y s ((FJ.u 44 25 _ (by simp)).u 44 26 _ (by simp)) hE rfl (by rw [if_pos zz]; rfl) ok (fun _ => hR (by omega))
    refine B_X12_readPage_97 hK hs (n103 := by decide) (kt := fun _ => ?_) (kf := fun t => absurd (by decide) t)
    refine B_X12_readPage_126 hK (n128a := by decide) (kt := fun _ => ?_) (kf := fun t => absurd (by decide) t)
    exact B_X12_readPage_168 hK (n170a := by omega) (kt := fun t2 => B_X12_readPage_177 hK (k := tail 0 (Or.inl rfl) (fun _ => ⟨fun u => absurd u (by decide), fun u => by omega⟩))) (kf := fun t2 => B_X12_readPage_173 hK (k := tail 1 (Or.inr rfl) (fun _ => ⟨fun _ => by show 5 < s.1; omega, fun _ => rfl⟩)))
  have nxt : ∀ (J : Nat → Nat → Int) (s : seS) (c : Int) (Q2 : oQ), seR s J → seOK s → 0 ≤ c ∧ c ≤ 127 → (∀ r J2, FrS J J2 → seOut (seStep s c) r J2 → Q2 (some (vI r)) (sh, J2, L)) → T_X12_next [vR 44, vI 2, vI s.1, vI c] (sh, J, L) Q2 := by
    intro J s c Q2 hr ok hc kk
    obtain ⟨st, many, S⟩ := s
    obtain ⟨r1, r2⟩ := hr
    dsimp only at r1
    have ok' := ok
    obtain ⟨o1, o2, o3, o4, _⟩ := ok'
    dsimp only at r1 r2
    dsimp only at o1 o2 o3 o4
    subst r1 r2
    refine And.intro (Nat.le_of_ble_eq_true rfl) (fun KN hN => ?_)
    refine B_X12_next_0 hN (n1 := by decide) (kt := fun _ => ?_) (kf := fun t => absurd (by decide) t)
    refine B_X12_next_13 hN (n15a := by decide) (kt := fun _ => ?_) (kf := fun t => absurd (by decide) t)
    refine B_X12_next_27 hN hs (k := ?_)
    refine s_nextStand hs (by omega) hc (by omega) (by omega) (by omega) (fun r J2 F2 O2 => ?_)
    refine B_X12_next_33 hN (k := ?_)
    exact kk r J2 F2 O2
  have lp : ∀ (n y : Nat) (J : Nat → Nat → Int) (s : seS), y + n = (I 44 19).toNat → FrR I J → rdAt seStep (se0 I) (I 56) y = some s → seOK s → seR s J → K 29 [some (vR 44), some (vI 2), some (vI s.1), some (vI (y : Int)), some (vI 1), none] [] (sh, J, L) (0, 0) := by
    intro n
    induction n with
    | zero =>
      intro y J s hn FJ at1 ok hR
      have e19 : J 44 19 = I 44 19 := FJ 44 19 (by decide) (by decide)
      have o2 := ok.2.1
      refine B_X12_readPage_29 hK hs (n34a := by omega) (n34b := by omega) (kt := fun _ => ?_) (kf := fun t => absurd (by omega) t)
      exact fin J y s FJ ⟨by omega, at1, Or.inl (by omega)⟩ ok (fun _ => hR) (by rw [hR.1]; omega)
    | succ n ih =>
      intro y J s hn FJ at1 ok hR
      have e19 : J 44 19 = I 44 19 := FJ 44 19 (by decide) (by decide)
      have e56 : J 56 y = I 56 y := FJ 56 y (by decide) (by simp)
      have hc := hlt y (by omega)
      have o1 := ok.1
      have o2 := ok.2.1
      refine B_X12_readPage_29 hK hs (n34a := by omega) (n34b := by omega) (kt := fun t => absurd t (by omega)) (kf := fun _ => ?_)
      refine B_X12_readPage_37 hK (n39 := by decide) (kt := fun t => absurd t (by decide)) (kf := fun _ => ?_)
      refine B_X12_readPage_42 hK hs (b50 := by omega) (k := ?_)
      rw [Int.toNat_natCast, e56]
      refine nxt J s (I 56 y) _ hR ok hc (fun r J2 F2 O2 => ?_)
      have F3 : FrR I J2 := FJ.tr F2 (by decide) (by decide) (by decide) (by decide)
      have j19 : J2 44 19 = I 44 19 := F3 44 19 (by decide) (by decide)
      cases hq : seStep s (I 56 y) with
      | none =>
        rw [hq] at O2
        have O3 : r = -1 := O2.1
        refine B_X12_readPage_54 hK (n59a := by omega) (kt := fun _ => ?_) (kf := fun t => absurd O3 t)
        refine B_X12_readPage_66 hK (k := ?_)
        refine B_X12_readPage_67 hK (n71 := by decide) (kt := fun _ => ?_) (kf := fun t => absurd rfl t)
        refine B_X12_readPage_79 hK (k := ?_)
        refine B_X12_readPage_80 hK (n84 := by decide) (kt := fun _ => ?_) (kf := fun t => absurd rfl t)
        refine B_X12_readPage_91 hK (k := B_X12_readPage_92 hK (k := ?_))
        refine B_X12_readPage_29 hK hs (n34a := by omega) (n34b := by omega) (kt := fun t => absurd t (by omega)) (kf := fun _ => ?_)
        refine B_X12_readPage_37 hK (n39 := by decide) (kt := fun _ => ?_) (kf := fun t => absurd rfl t)
        rw [Int.add_zero]
        exact fin J2 y s F3 ⟨by omega, at1, Or.inr hq⟩ ok (fun t => absurd t (by omega)) O2.2
      | some s2 =>
        rw [hq] at O2
        have ok2 := seOK_st ok hq
        have o3 := ok2.1
        have O3 : r = s2.1 := O2.1
        refine B_X12_readPage_54 hK (n59a := by omega) (kt := fun t => absurd t (by omega)) (kf := fun _ => ?_)
        refine B_X12_readPage_62 hK (k := ?_)
        refine B_X12_readPage_67 hK (n71 := by decide) (kt := fun t => absurd t (by decide)) (kf := fun _ => ?_)
        refine B_X12_readPage_74 hK (k := ?_)
        refine B_X12_readPage_80 hK (n84 := by decide) (kt := fun t => absurd t (by decide)) (kf := fun _ => ?_)
        refine B_X12_readPage_87 hK (k := B_X12_readPage_92 hK (k := ?_))
        rw [O3]
        exact ih (y + 1) J2 s2 (by omega) F3 (by rw [rdAt_st at1, hq]) ok2 O2.2
  refine B_X12_readPage_0 hK hs (k := ?_)
  refine lp (I 44 19).toNat 0 _ (se0 I) (by omega) ((((Fr.rf.u 44 27 _ (by simp)).u 44 31 _ (by simp)).u 44 35 _ (by simp)).u 60 3 _ (by simp)) rfl seOK_0 ?_
  exact ⟨rfl, rfl⟩
