/-! the class measures -/
theorem ms_cg {N ne : Nat} {fr to : Nat → Nat} {rm cs : Nat → Int} {far sn : Nat → Int} {q : Nat → Nat} {T X i b : Nat} {xc xc' : Nat → Prop} (h : msI N ne fr to rm cs far sn q T X i b xc) (hx : ∀ e, e < ne → xc e → xc' e) : msI N ne fr to rm cs far sn q T X i b xc' := by
  obtain ⟨h1, h2, h3, h4, h5, h6, h7, h8, h9, h10⟩ := h
  refine ⟨h1, h2, h3, h4, h5, fun e he hr hf => ?_, h7, fun e d h he hr o hh => ?_, h9, h10⟩
  · rcases h6 e he hr hf with z | z | z
    · exact Or.inl z
    · exact Or.inr (Or.inl z)
    · exact Or.inr (Or.inr (hx e he z))
  · rcases h8 e d h he hr o hh with z | z | z
    · exact Or.inl z
    · exact Or.inr (Or.inl z)
    · exact Or.inr (Or.inr (hx e he z))
theorem relI_cg {N ne : Nat} {fr to : Nat → Nat} {rm cs : Nat → Int} {s : Nat} {B E : Int} {far far' : Nat → Int} (hs : s < N) (e : ∀ n, n < N → far' n = far n) (h : relI N ne fr to rm cs s B E far) : relI N ne fr to rm cs s B E far' := by
  have ec : cntF N E far' = cntF N E far := sm_congr (fun i hi => by rw [e i hi])
  refine ⟨by rw [e s hs]; exact h.1, fun n hn => by rw [e n hn]; exact h.2.1 n hn, fun n hn hl => ?_⟩
  rw [e n hn] at hl ⊢
  rw [ec]
  exact h.2.2 n hn hl
abbrev FrQm (I J : Nat → Nat → Int) : Prop := Fr [37, 38, 40] [] I J
set_option maxHeartbeats 4000000 in
set_option maxRecDepth 4000 in
theorem s_measure {sh : oS} {I : Nat → Nat → Int} {L : Nat → Nat → Int64} {Q : oQ} (hs : Sh sh) {m N : Nat} {u v : Nat → Nat} {w : Nat → Int} (hn : nNet I m N u v w) (hN2 : 2 ≤ N) (hl : ∀ i, i < m → u i < N ∧ v i < N) (hw : ∀ i, i < m → -7 ≤ w i ∧ w i ≤ 7) (hr : ∀ e, e < 2 * m → 0 ≤ I 33 e ∧ I 33 e ≤ 2000000000) {pi : Nat → Int} (hp : pot (2 * m) (eF u v) (eT u v) (I 33) (eC w) pi)
    (k : ∀ J, FrQm I J → relI N (2 * m) (eF u v) (eT u v) (I 33) (eC w) 0 7 268435456 (J 37) → (∀ e, e < 2 * m → 0 < I 33 e → J 37 (eF u v e) < 268435456 → J 37 (eT u v e) ≤ J 37 (eF u v e) + eC w e) → ∀ r, (r = 1 ∧ J 37 1 < 268435456) ∨ (r = 0 ∧ ¬ J 37 1 < 268435456) → Q (some (vI r)) (sh, J, L)) : T_X7_measure [vR 31] (sh, I, L) Q := by
  refine And.intro (Nat.le_of_ble_eq_true rfl) (fun K hK => ?_)
  obtain ⟨n1, n2, n3, n4, n5, n6⟩ := hn
  have hcb : ∀ e, e < 2 * m → -7 ≤ eC w e ∧ eC w e ≤ 7 := fun e he => eC_bd hw he
  have hfl : ∀ e, e < 2 * m → eF u v e < N := fun e he => (e_lt hl he).1
  have htl : ∀ e, e < 2 * m → eT u v e < N := fun e he => (e_lt hl he).2
  have lo : ∀ {far : Nat → Int}, relI N (2 * m) (eF u v) (eT u v) (I 33) (eC w) 0 7 268435456 far → ∀ n, n < N → -2268 ≤ far n ∧ far n ≤ 268435456 := fun {far} h n hn => by
    have a := relI_low hp (by decide) (by decide) hfl (fun e he => (hcb e he).1) h hn
    have b := h.2.1 n hn
    omega
  -- the end
  have fin : ∀ (J : Nat → Nat → Int) (q : Nat → Nat) (T i b : Nat), FrQm I J → msI N (2 * m) (eF u v) (eT u v) (I 33) (eC w) (J 37) (J 40) q T T i b (fun _ => False) → K 261 [some (vR 31), none, none, none, none, none, none, none, none] [] (sh, J, L) (0, 0) := by
    intro J q T i b FJ hm
    have cl : ∀ e, e < 2 * m → 0 < I 33 e → J 37 (eF u v e) < 268435456 → J 37 (eT u v e) ≤ J 37 (eF u v e) + eC w e := fun e he hre hf => by
      rcases hm.2.2.2.2.2.1 e he hre hf with z | ⟨j, z1, z2, -⟩ | z
      · exact z
      · omega
      · exact z.elim
    have b1 := lo hm.1 1 (by omega)
    refine B_X7_measure_261 hK hs (n269a := by omega) (kt := fun z => ?_) (kf := fun z => ?_)
    · refine B_X7_measure_276 hK (k := ?_)
      refine B_X7_measure_277 hK (o277 := Or.inl rfl) (k := ?_)
      exact k J FJ hm.1 cl 0 (Or.inr ⟨rfl, by omega⟩)
    · refine B_X7_measure_272 hK (k := ?_)
      refine B_X7_measure_277 hK (o277 := Or.inr rfl) (k := ?_)
      exact k J FJ hm.1 cl 1 (Or.inl ⟨rfl, by omega⟩)
  -- one node's edges
  have scan : ∀ (kk : Nat) (J : Nat → Nat → Int) (q : Nat → Nat) (T X i b x t left : Nat), kk ≤ 2 * m → kk ≤ left → left ≤ 2548 → t + 1 = T → T ≤ 104976 → FrQm I J → (∀ j, T ≤ j → j < X → J 38 (j % 324) = (q j : Int)) → msI N (2 * m) (eF u v) (eT u v) (I 33) (eC w) (J 37) (J 40) q T X i b (fun e => eF u v e = x ∧ e < kk) → x < N → J 37 x < 268435456 →
      (∀ (J : Nat → Nat → Int) (q : Nat → Nat) (X : Nat), FrQm I J → (∀ j, T ≤ j → j < X → J 38 (j % 324) = (q j : Int)) → msI N (2 * m) (eF u v) (eT u v) (I 33) (eC w) (J 37) (J 40) q T X i b (fun _ => False) → K 255 [some (vR 31), some (vI ((T % 324 : Nat) : Int)), some (vI ((X - T : Nat) : Int)), some (vI (t : Int)), none, none, none, none, none] [] (sh, J, L) (0, 0)) →
      K 112 [some (vR 31), some (vI ((T % 324 : Nat) : Int)), some (vI ((X - T : Nat) : Int)), some (vI (t : Int)), some (vI (x : Int)), some (vI (lst (eF u v) x kk)), some (vI (left : Int)), none, none] [] (sh, J, L) (0, 0) := by
    intro kk
    induction kk using Nat.strongRecOn with
    | ind kk ih =>
      intro J q T X i b x t left g1 g2 g3 gt gT FJ mem hm hx hfx cont
      have bd := lst_bd (eF u v) x kk
      refine B_X7_measure_112 hK (n114 := by omega) (kt := fun z => ?_) (kf := fun z => ?_)
      · exact cont J q X FJ mem (ms_cg hm (fun e _ y => lst_no _ _ _ z e y.2 y.1))
      obtain ⟨e, he⟩ := Int.eq_ofNat_of_zero_le (show 0 ≤ lst (eF u v) x kk by omega)
      obtain ⟨a1, a2, a3⟩ := lst_is _ _ _ _ he
      have he2 : e < 2 * m := by omega
      rw [he]
      refine B_X7_measure_117 hK (n119 := by omega) (kt := fun y => absurd y (by omega)) (kf := fun _ => ?_)
      have c1 := hcb e he2
      have c3 := htl e he2
      have c4 := hr e he2
      obtain ⟨w1, w2, w3⟩ := n5 e he2
      have lx := lo hm.1 x hx
      have lt := lo hm.1 _ c3
      have nx : ∀ (J2 : Nat → Nat → Int) (q2 : Nat → Nat) (X2 : Nat), FrQm I J2 → (∀ j, T ≤ j → j < X2 → J2 38 (j % 324) = (q2 j : Int)) → msI N (2 * m) (eF u v) (eT u v) (I 33) (eC w) (J2 37) (J2 40) q2 T X2 i b (fun y => eF u v y = x ∧ y < e) → J2 37 x < 268435456 → K 240 [some (vR 31), some (vI ((T % 324 : Nat) : Int)), some (vI ((X2 - T : Nat) : Int)), some (vI (t : Int)), some (vI (x : Int)), some (vI (e : Int)), some (vI (left : Int)), none, none] [] (sh, J2, L) (0, 0) := by
        intro J2 q2 X2 F2 mem2 hm2 hf2
        refine B_X7_measure_240 hK hs (b246 := by omega) (k := ?_)
        have e35 : J2 35 ((e : Int).toNat) = lst (eF u v) x e := by
          rw [Int.toNat_natCast, F2 35 e (by decide) (by simp), w3, a2]
        rw [e35, show (left : Int) + (-1) = ((left - 1 : Nat) : Int) by omega]
        exact ih e a1 J2 q2 T X2 i b x t (left - 1) (by omega) (by omega) (by omega) gt gT F2 mem2 hm2 hx hf2 cont
      have r33 : J 33 ((e : Int).toNat) = I 33 e := by rw [Int.toNat_natCast]; exact FJ 33 e (by decide) (by simp)
      have r32 : J 32 ((e : Int).toNat) = (eT u v e : Int) := by rw [Int.toNat_natCast, FJ 32 e (by decide) (by simp)]; exact w1
      have r34 : J 34 ((e : Int).toNat) = eC w e := by rw [Int.toNat_natCast, FJ 34 e (by decide) (by simp)]; exact w2
      refine B_X7_measure_122 hK hs (b128 := by omega) (n138 := by rw [r33]; omega) (kt := fun y => ?_) (kf := fun y => ?_)
      · rw [r33] at y
        exact nx J q X FJ mem (ms_skip hm hx a2 a3 (fun h0 => by omega)) hfx
      rw [r33] at y
      rw [r32]
      have tx : (x : Int).toNat = x := Int.toNat_natCast x
      have ty : ((eT u v e : Nat) : Int).toNat = eT u v e := Int.toNat_natCast _
      refine B_X7_measure_141 hK hs (b147 := by omega) (b154 := by omega) (b162 := by omega) (n163a := by rw [tx, r34]; omega) (n163b := by rw [ty]; omega) (kt := fun y2 => ?_) (kf := fun y2 => ?_)
      · rw [tx, ty, r34] at y2
        exact nx J q X FJ mem (ms_skip hm hx a2 a3 (fun _ => y2)) hfx
      rw [tx, ty, r34] at y2
      obtain ⟨b1, b2, b3⟩ := ms_better hp (fun e he => (hcb e he).2) hm hfx he2 a2 hx c3 (by omega) a3 (by omega)
      have sn01 : J 40 (eT u v e) = 0 ∨ J 40 (eT u v e) = 1 := by
        rcases hm.2.2.2.2.1 _ c3 with ⟨z1, -⟩ | ⟨z1, -⟩
        · exact Or.inr z1
        · exact Or.inl z1
      have e37 : (u2 J 37 (eT u v e) (J 37 x + eC w e)) 37 = up (J 37) (eT u v e) (J 37 x + eC w e) := u2_row
      have e40 : (u2 J 37 (eT u v e) (J 37 x + eC w e)) 40 = J 40 := u2_oth (by decide)
      refine B_X7_measure_166 hK hs (b178 := by omega) (b185 := by omega) (b187 := by omega) (n195 := by rw [ty]; omega) (kt := fun y3 => ?_) (kf := fun y3 => ?_)
      · rw [ty] at y3
        rw [tx, ty, r34]
        refine nx _ q X (FJ.u 37 _ _ (by simp)) (fun j j1 j2 => by rw [uN (by decide)]; exact mem j j1 j2) (by rw [e37, e40]; exact b2 y3) ?_
        rw [uK (fun zz => b1 zz.symm)]
        exact hfx
      rw [ty] at y3
      rw [tx, ty, r34]
      obtain ⟨b4, b5⟩ := b3 (Classical.not_not.1 y3)
      have few := ms_few hm c3 b5
      have hTX : T ≤ X := by have := hm.2.1; omega
      -- it comes to the line
      have put : ∀ s1 : Int, s1 = ((X % 324 : Nat) : Int) → K 234 [some (vR 31), some (vI ((T % 324 : Nat) : Int)), some (vI ((X - T : Nat) : Int)), some (vI (t : Int)), some (vI (x : Int)), some (vI (e : Int)), some (vI (left : Int)), some (vI (eT u v e : Int)), none] [vI s1, vR 38] (sh, u2 (u2 J 37 (eT u v e) (J 37 x + eC w e)) 40 (eT u v e) 1, L) (0, 0) := by
        intro s1 hs1
        refine B_X7_measure_234 hK hs (b236 := by omega) (k := ?_)
        rw [hs1, Int.toNat_natCast, show ((X - T : Nat) : Int) + 1 = ((X + 1 - T : Nat) : Int) by omega]
        refine nx _ (ex q X (eT u v e)) (X + 1) (((FJ.u 37 _ _ (by simp)).u 40 _ _ (by simp)).u 38 _ _ (by simp)) (fun j j1 j2 => ?_) ?_ ?_
        · by_cases z2 : j = X
          · subst z2
            rw [uA, ex_at]
          · rw [uK (by omega), uN (by decide), uN (by decide), ex_ne z2]
            exact mem j j1 (by omega)
        · rw [u2_oth (by decide), u2_oth (by decide), e37, u2_oth (by decide), u2_row, e40]
          exact b4
        · rw [uN (by decide), uN (by decide), uK (fun zz => b1 zz.symm)]
          exact hfx
      refine B_X7_measure_198 hK hs (b205 := by omega) (n220a := by omega) (kt := fun y4 => ?_) (kf := fun y4 => ?_)
      · rw [ty]
        refine B_X7_measure_232 hK (k := ?_)
        exact put _ (by omega)
      · rw [ty]
        refine B_X7_measure_223 hK (k := ?_)
        exact put _ (by omega)
  -- turns
  have outer : ∀ (d T : Nat) (J : Nat → Nat → Int) (q : Nat → Nat) (X i b : Nat), T + d = 104976 → FrQm I J → (∀ j, T ≤ j → j < X → J 38 (j % 324) = (q j : Int)) → msI N (2 * m) (eF u v) (eT u v) (I 33) (eC w) (J 37) (J 40) q T X i b (fun _ => False) → K 51 [some (vR 31), some (vI ((T % 324 : Nat) : Int)), some (vI ((X - T : Nat) : Int)), some (vI (T : Int)), none, none, none, none, none] [] (sh, J, L) (0, 0) := by
    have ph : ∀ {J : Nat → Nat → Int} {q : Nat → Nat} {T X i b : Nat}, msI N (2 * m) (eF u v) (eT u v) (I 33) (eC w) (J 37) (J 40) q T X i b (fun _ => False) → T < X → ∃ i' b', msI N (2 * m) (eF u v) (eT u v) (I 33) (eC w) (J 37) (J 40) q T X i' b' (fun _ => False) ∧ T < b' := by
      intro J q T X i b hm hT
      by_cases z : T < b
      · exact ⟨i, b, hm, z⟩
      · have := hm.2.1.1
        exact ⟨i + 1, X, ms_phase hfl n4 (fun e he => (hcb e he).2) hm (by omega) hT, hT⟩
    intro d
    induction d with
    | zero =>
      intro T J q X i b hd FJ mem hm
      have hTX : T ≤ X := by have := hm.2.1; omega
      refine B_X7_measure_51 hK (n54a := by omega) (kt := fun _ => ?_) (kf := fun z => absurd (by omega) z)
      rcases Nat.lt_or_ge T X with z | z
      · obtain ⟨i', b', hm', z'⟩ := ph hm z
        have := ms_time hp hfl n4 hm' z'
        omega
      · have : X = T := by omega
        subst this
        exact fin J q X i b FJ hm
    | succ d ih =>
      intro T J q X i b hd FJ mem hm
      have hTX : T ≤ X := by have := hm.2.1; omega
      refine B_X7_measure_51 hK (n54a := by omega) (kt := fun z => absurd z (by omega)) (kf := fun _ => ?_)
      have few : X - T ≤ 324 := by
        rcases Nat.lt_or_ge T X with z | z
        · have := ms_few2 hm z
          omega
        · omega
      refine B_X7_measure_57 hK (n58 := by omega) (kt := fun z => ?_) (kf := fun z => ?_)
      · have : X = T := by omega
        subst this
        exact fin J q X i b FJ hm
      obtain ⟨i', b', hm', z'⟩ := ph hm (by omega)
      obtain ⟨x1, x2⟩ := hm'.2.2.1 T (Nat.le_refl _) (by omega)
      have m0 := mem T (Nat.le_refl _) (by omega)
      have t0 : J 38 (((T % 324 : Nat) : Int).toNat) = (q T : Int) := by rw [Int.toNat_natCast]; exact m0
      have tail : ∀ s0 : Int, s0 = (((T + 1) % 324 : Nat) : Int) → K 85 [some (vR 31), none, some (vI ((X - T : Nat) : Int)), some (vI (T : Int)), some (vI (q T : Int)), none, none, none, none] [vI s0] (sh, J, L) (0, 0) := by
        intro s0 hs0
        refine B_X7_measure_85 hK hs (b96 := by omega) (k := ?_)
        rw [hs0, Int.toNat_natCast, FJ 36 (q T) (by decide) (by simp), n6 (q T) (by omega), FJ 31 10 (by decide) (by simp), n1, show ((X - T : Nat) : Int) + (-1) = ((X - (T + 1) : Nat) : Int) by omega, show 2 * (m : Int) = ((2 * m : Nat) : Int) by omega]
        refine scan (2 * m) (u2 J 40 (q T) 0) q (T + 1) X i' b' (q T) T (2 * m) (Nat.le_refl _) (Nat.le_refl _) n2 rfl (by omega) (FJ.u 40 _ _ (by simp)) (fun j j1 j2 => by rw [uN (by decide)]; exact mem j (by omega) j2) ?_ x1 (by rw [uN (by decide)]; exact x2) (fun J2 q2 X2 F2 mem2 hm2 => ?_)
        · rw [u2_oth (by decide), u2_row]
          exact ms_take hm' z' rfl
        · refine B_X7_measure_255 hK (k := ?_)
          exact ih (T + 1) J2 q2 X2 i' b' (by omega) F2 mem2 hm2
      refine B_X7_measure_61 hK hs (b66 := by omega) (n75a := by omega) (kt := fun y => ?_) (kf := fun y => ?_)
      · rw [t0]
        refine B_X7_measure_82 hK (k := ?_)
        exact tail _ (by omega)
      · rw [t0]
        refine B_X7_measure_78 hK (k := ?_)
        exact tail _ (by omega)
  -- the beginning
  have init : ∀ (d i : Nat) (J : Nat → Nat → Int), i + d = N → FrQm I J → (∀ n, n < i → J 37 n = 268435456 ∧ J 40 n = 0) → K 2 [some (vR 31), some (vI (i : Int)), none, none, none, none, none, none, none] [] (sh, J, L) (0, 0) := by
    intro d
    induction d with
    | zero =>
      intro i J hi FJ c
      refine B_X7_measure_2 hK hs (n7a := by omega) (n7b := by rw [FJ 31 9 (by decide) (by simp)]; omega) (kt := fun _ => ?_) (kf := fun z => absurd (by rw [FJ 31 9 (by decide) (by simp)]; omega) z)
      refine B_X7_measure_31 hK hs (k := ?_)
      have F2 : FrQm I (u2 (u2 J 37 0 0) 38 0 0) := (FJ.u 37 0 0 (by simp)).u 38 0 0 (by simp)
      have e37 : ∀ n, n < N → (u2 (u2 J 37 0 0) 38 0 0) 37 n = (if n = 0 then 0 else 268435456) := by
        intro n hn
        rw [uN (by decide)]
        by_cases q : n = 0
        · subst q
          rw [uA, if_pos rfl]
        · rw [uK q, if_neg q]
          exact (c n (by omega)).1
      have e40 : ∀ n, n < N → (u2 (u2 J 37 0 0) 38 0 0) 40 n = 0 := fun n hn => by
        rw [uN (by decide), uN (by decide)]
        exact (c n (by omega)).2
      have e38 : (u2 (u2 J 37 0 0) 38 0 0) 38 0 = 0 := uA
      generalize u2 (u2 J 37 0 0) 38 0 0 = J2 at *
      refine B_X7_measure_51 hK (n54a := by decide) (kt := fun z => absurd z (by decide)) (kf := fun _ => ?_)
      refine B_X7_measure_57 hK (n58 := by decide) (kt := fun z => absurd z (by decide)) (kf := fun _ => ?_)
      refine B_X7_measure_61 hK hs (b66 := by decide) (n75a := by decide) (kt := fun _ => ?_) (kf := fun z => absurd (by decide) z)
      have e38' : J2 38 ((0 : Int).toNat) = 0 := e38
      rw [e38']
      refine B_X7_measure_82 hK (k := ?_)
      refine B_X7_measure_85 hK hs (b96 := by decide) (k := ?_)
      have f36 : J2 36 ((0 : Int).toNat) = lst (eF u v) 0 (2 * m) := by
        show J2 36 0 = _
        rw [F2 36 0 (by decide) (by simp)]
        exact n6 0 (by decide)
      rw [f36, F2 31 10 (by decide) (by simp), n1, show 2 * (m : Int) = ((2 * m : Nat) : Int) by omega]
      refine scan (2 * m) (u2 J2 40 0 0) (fun _ => 0) 1 1 0 1 0 0 (2 * m) (Nat.le_refl _) (Nat.le_refl _) n2 rfl (by decide) (F2.u 40 0 0 (by simp)) (fun j j1 j2 => absurd j1 (by omega)) ⟨?_, by decide, fun j j1 j2 => absurd j1 (by omega), fun j j' j1 j2 => absurd j1 (by omega), fun n hn => Or.inr ⟨?_, fun j j1 j2 => absurd j1 (by omega)⟩, fun e he hre hf => Or.inr (Or.inr ⟨?_, he⟩), fun n d h hn o hh => ?_, fun e d h he hre o hh => Or.inr (Or.inr ⟨?_, he⟩), fun j d h j1 j2 => absurd j1 (by omega), fun j d h j1 j2 => absurd j1 (by omega)⟩ (by omega) (by rw [uN (by decide), e37 0 (by omega)]; decide) (fun J3 q3 X3 F3 mem3 hm3 => ?_)
      · refine relI_cg (by omega) (fun n hn => ?_) (relI_0 (by omega) (by decide))
        rw [uN (by decide), e37 n hn]
      · by_cases z : n = 0
        · subst z
          rw [uA]
        · rw [uK z]
          exact e40 n hn
      · rw [uN (by decide), e37 _ (hfl e he)] at hf
        apply Classical.byContradiction
        intro z
        rw [if_neg z] at hf
        omega
      · have : h = 0 := by omega
        subst this
        obtain ⟨o1, o2⟩ := o.1
        subst o1
        rw [uN (by decide), e37 0 hn, o2]
        decide
      · have : h = 0 := by omega
        subst this
        exact o.1.1
      · refine B_X7_measure_255 hK (k := ?_)
        exact outer 104975 1 J3 q3 X3 0 1 (by decide) F3 mem3 hm3
    | succ d ih =>
      intro i J hi FJ c
      refine B_X7_measure_2 hK hs (n7a := by omega) (n7b := by rw [FJ 31 9 (by decide) (by simp)]; omega) (kt := fun z => absurd z (by rw [FJ 31 9 (by decide) (by simp)]; omega)) (kf := fun _ => ?_)
      refine B_X7_measure_10 hK hs (b17 := by omega) (k := ?_)
      rw [Int.toNat_natCast]
      refine ih (i + 1) _ (by omega) ((FJ.u 37 _ _ (by simp)).u 40 _ _ (by simp)) (fun n hn => ?_)
      by_cases z : n = i
      · subst z
        rw [uN (by decide), uA, uA]
        exact ⟨rfl, rfl⟩
      · rw [uN (by decide), uK z, uK z, uN (by decide)]
        exact c n (by omega)
  refine B_X7_measure_0 hK (k := ?_)
  exact init N 0 I (by omega) Fr.rf (fun n hn => absurd hn (by omega))
