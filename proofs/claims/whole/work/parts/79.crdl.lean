/-! the class reads a land -/
def pgB (J : Nat → Nat → Int) (pg : Nat → Int) (len : Nat) : Prop := J 1 1 = (len : Int) ∧ len ≤ 60 ∧ ∀ x, x < len → J 2 x = pg x ∧ 1 ≤ pg x ∧ pg x ≤ 126
theorem pgB.at0 {J : Nat → Nat → Int} {pg : Nat → Int} {len : Nat} (h : pgB J pg len) : pgA (u2 J 1 2 0) pg len 0 := ⟨h.1, rfl, h.2.1, Nat.zero_le _, h.2.2⟩
theorem landO {sh : oS} (hs : Sh sh) : LandAt sh 6 7 8 := ⟨sk_6 hs, sr_6_1 hs, sr_6_2 hs, ⟨sk_7 hs, sl_7 hs⟩, sk_8 hs, sl_8 hs⟩
theorem landT {sh : oS} (hs : Sh sh) : LandAt sh 3 4 5 := ⟨sk_3 hs, sr_3_1 hs, sr_3_2 hs, ⟨sk_4 hs, sl_4 hs⟩, sk_5 hs, sl_5 hs⟩
theorem s_fill {sh : oS} {I : Nat → Nat → Int} {L : Nat → Nat → Int64} {Q : oQ} {h n : Nat} {v : Int} (hk : sK sh h = 13) (hl : sL sh h = n) (hn : n ≤ 65536) (k : ∀ J, Fr [h] [] I J → (∀ x, x < n → J h x = v) → Q none (sh, J, L)) : T_J7_fill_53178 [vR h, vI v] (sh, I, L) Q := by
  refine And.intro (Nat.le_of_ble_eq_true rfl) (fun K hK => ?_)
  refine B_J7_fill_53178_0 hK (kh0 := hk) (k := ?_)
  rw [hl]
  have lp : ∀ (d i : Nat) (J : Nat → Nat → Int), i + d = n → Fr [h] [] I J → (∀ x, x < i → J h x = v) → K 5 [some (vR h), some (vI v), some (vI (i : Int)), some (vI (n : Int))] [] (sh, J, L) (0, 0) := by
    intro d
    induction d with
    | zero =>
      intro i J hi F q
      refine B_J7_fill_53178_5 hK (n7a := by omega) (n7b := by omega) (kt := fun _ => ?_) (kf := fun z => absurd (by omega) z)
      exact B_J7_fill_53178_20 hK (k := k J F (fun x hx => q x (by omega)))
    | succ d ih =>
      intro i J hi F q
      refine B_J7_fill_53178_5 hK (n7a := by omega) (n7b := by omega) (kt := fun z => absurd z (by omega)) (kf := fun _ => ?_)
      refine B_J7_fill_53178_10 hK (kh0 := hk) (b13 := by rw [hl]; omega) (k := ?_)
      rw [Int.toNat_natCast]
      refine ih (i + 1) _ (by omega) (F.u h i v (by simp)) (fun x hx => ?_)
      by_cases e : x = i
      · subst e; exact uA
      · rw [uK e]; exact q x (by omega)
  exact lp n 0 I (by omega) Fr.rf (fun x hx => absurd hx (by omega))
abbrev FrO (I J : Nat → Nat → Int) : Prop := Fr [6, 7, 8] [(1, 2)] I J
theorem la_d0 {p : Nat} {F W Ld : Nat → Int} {c : Int} (h : isDg c) : laStep (0, (p : Int), F, W, Ld) c = some (((1 : Nat) : Int), (p : Int) + 1, up F p (c - 48), up W p 0, Ld) := by
  unfold laStep laPl
  dsimp only
  rw [if_pos (by decide), if_pos ⟨h, by decide⟩, if_pos rfl, Int.toNat_natCast]
  rfl
theorem la_d1 {p d : Nat} {v : Int} {F W Ld : Nat → Int} {c : Int} (h1 : 1 ≤ d) (h2 : d < 3) (h : isDg c) : laStep ((d : Int), (p : Int) + 1, up F p v, W, Ld) c = some (((d + 1 : Nat) : Int), (p : Int) + 1, up F p (10 * v + c - 48), W, Ld) := by
  unfold laStep laPl
  dsimp only
  rw [if_pos (by omega), if_pos ⟨h, by omega⟩, if_neg (by omega), show (p : Int) + 1 - 1 = (p : Int) by omega, Int.toNat_natCast, up_at, up_up]
  rfl
theorem la_w {p : Nat} {st : Int} {F W Ld : Nat → Int} (h1 : 1 ≤ st) (h2 : st < 4) : laStep (st, (p : Int) + 1, F, W, Ld) 119 = some (4, (p : Int) + 1, F, up W p 1, Ld) := by
  unfold laStep laPl
  dsimp only
  rw [if_pos (by omega), if_neg (by unfold isDg; omega), if_neg (by omega), if_pos ⟨rfl, h2⟩, show (p : Int) + 1 - 1 = (p : Int) by omega, Int.toNat_natCast]
theorem la_c {p st : Int} {F W Ld : Nat → Int} (h1 : 1 ≤ st) (h2 : st ≤ 4) (h3 : p < 8) : laStep (st, p, F, W, Ld) 44 = some (0, p, F, W, Ld) := by
  unfold laStep laPl
  dsimp only
  rw [if_pos (by omega), if_neg (by unfold isDg; omega), if_neg (by omega), if_neg (by omega), if_pos rfl, if_pos h3]
theorem la_s {p st : Int} {F W Ld : Nat → Int} (h1 : 1 ≤ st) (h2 : st ≤ 4) (h3 : 1 < p) : laStep (st, p, F, W, Ld) 59 = some (5, p, F, W, Ld) := by
  unfold laStep laPl
  dsimp only
  rw [if_pos (by omega), if_neg (by unfold isDg; omega), if_neg (by omega), if_neg (by omega), if_neg (by omega), if_pos ⟨rfl, h3⟩]
theorem la_no {p st c : Int} {F W Ld : Nat → Int} (h1 : 1 ≤ st) (h2 : st ≤ 4) (h3 : st < 3 → ¬ isDg c) (h4 : st < 4 → c ≠ 119) (h5 : p = 8 ∨ c ≠ 44) (h6 : c ≠ 59 ∨ p = 1) : laStep (st, p, F, W, Ld) c = none := by
  unfold laStep laPl
  dsimp only
  rw [if_pos (by omega), if_neg (fun z => h3 z.2 z.1), if_neg (by omega), if_neg (fun z => h4 z.2 z.1)]
  by_cases e : c = 44
  · rw [if_pos e, if_neg (by omega)]
  · rw [if_neg e, if_neg (by omega)]
theorem la_n0 {p c : Int} {F W Ld : Nat → Int} (h : ¬ isDg c) : laStep (0, p, F, W, Ld) c = none := by
  unfold laStep laPl
  dsimp only
  rw [if_pos (by decide), if_neg (fun z => h z.1), if_pos rfl]
/-- what stands in the land that is read -/
def laC (J : Nat → Nat → Int) (p : Nat) (F W : Nat → Int) : Prop := J 6 0 = (p : Int) ∧ ∀ x, x < p → J 7 x = F x ∧ J 8 x = W x
theorem laC.fr {J J2 : Nat → Nat → Int} {p : Nat} {F W : Nat → Int} (h : laC J p F W) (G : Fr [] [(1, 2)] J J2) : laC J2 p F W := by
  refine ⟨by rw [G 6 0 (by simp) (by simp)]; exact h.1, fun x hx => ?_⟩
  rw [G 7 x (by simp) (by simp), G 8 x (by simp) (by simp)]
  exact h.2 x hx
theorem FrO.one {I J J2 : Nat → Nat → Int} (F : FrO I J) (G : Fr [] [(1, 2)] J J2) : FrO I J2 := F.tr G (by simp) (by simp) (by simp) (by simp)
set_option maxHeartbeats 1000000 in
theorem s_readPlaces {sh : oS} {I : Nat → Nat → Int} {L : Nat → Nat → Int64} {Q : oQ} (hs : Sh sh) {pg : Nat → Int} {len : Nat} {s0 : laS} {F0 W0 Ld : Nat → Int} (h : pgA I pg len 0) (h0 : s0 = (0, 0, F0, W0, Ld))
    (k0 : ∀ J (c : Nat) (s : laS), FrO I J → pgA J pg len c → rdEnd laStep s0 pg len c s → s.1 ≤ 4 → Q (some (vI 0)) (sh, J, L))
    (k1 : ∀ J (c p : Nat) (st : Int) (F W : Nat → Int), FrO I J → pgA J pg len c → rdAt laStep s0 pg c = some (st, (p : Int), F, W, Ld) → 2 ≤ p ∧ p ≤ 8 → 1 ≤ st ∧ st ≤ 4 → (st < 3 → ¬ isDg (lkP pg len c)) → (st < 4 → lkP pg len c ≠ 119) → ((p : Int) = 8 ∨ lkP pg len c ≠ 44) → laC J p F W → Q (some (vI 1)) (sh, J, L)) : T_X4_readPlaces [vR 6, vR 1] (sh, I, L) Q := by
  refine And.intro (Nat.le_of_ble_eq_true rfl) (fun K hK => ?_)
  have A := landO hs
  refine B_X4_readPlaces_0 hK (Ah0 := A) (k := ?_)
  -- behind the last place
  have fin : ∀ (J : Nat → Nat → Int) (c p : Nat) (st : Int) (F W : Nat → Int), FrO I J → pgA J pg len c → rdAt laStep s0 pg c = some (st, (p : Int), F, W, Ld) → 1 ≤ p ∧ p ≤ 8 → 1 ≤ st ∧ st ≤ 4 → (st < 3 → ¬ isDg (lkP pg len c)) → (st < 4 → lkP pg len c ≠ 119) → ((p : Int) = 8 ∨ lkP pg len c ≠ 44) → laC J p F W → K 82 [some (vR 6), none, none, none] [] (sh, J, L) (0, 0) := by
    intro J c p st F W FJ hp hr hb hst g1 g2 g3 hc
    have e := hc.1
    refine B_X4_readPlaces_82 hK (Ah0 := A) (n87a := by omega) (kt := fun z => ?_) (kf := fun z => ?_)
    · refine B_X4_readPlaces_94 hK (k := ?_)
      refine B_X4_readPlaces_95 hK (o95 := Or.inl rfl) (k := ?_)
      exact k0 J c _ FJ hp (rd_no hr hp.2.2.2.1 (fun _ => la_no hst.1 hst.2 g1 g2 g3 (Or.inr (by omega)))) hst.2
    · refine B_X4_readPlaces_90 hK (k := ?_)
      refine B_X4_readPlaces_95 hK (o95 := Or.inr rfl) (k := ?_)
      exact k1 J c p st F W FJ hp hr ⟨by omega, hb.2⟩ hst g1 g2 g3 hc
  have lp : ∀ (d p : Nat) (J : Nat → Nat → Int) (c : Nat) (st : Int) (F W : Nat → Int), p + d = 8 → FrO I J → pgA J pg len c → rdAt laStep s0 pg c = some (st, (p : Int), F, W, Ld) → (p = 0 → st = 0) → (1 ≤ p → (1 ≤ st ∧ st ≤ 4) ∧ (st < 3 → ¬ isDg (lkP pg len c)) ∧ (st < 4 → lkP pg len c ≠ 119)) → laC J p F W → K 7 [some (vR 6), some (vR 1), some (vI (p : Int)), none] [] (sh, J, L) (0, 0) := by
    intro d
    induction d with
    | zero =>
      intro p J c st F W hd FJ hp hr e0 e1 hc
      refine B_X4_readPlaces_7 hK (n10a := by omega) (kt := fun _ => ?_) (kf := fun z => absurd (by omega) z)
      have q := e1 (by omega)
      exact fin J c p st F W FJ hp hr ⟨by omega, by omega⟩ q.1 q.2.1 q.2.2 (Or.inl (by omega)) hc
    | succ d ih =>
      intro p J c st F W hd FJ hp hr e0 e1 hc
      refine B_X4_readPlaces_7 hK (n10a := by omega) (kt := fun z => absurd z (by omega)) (kf := fun _ => ?_)
      -- a number is read
      have num : ∀ (J : Nat → Nat → Int) (c : Nat), FrO I J → pgA J pg len c → rdAt laStep s0 pg c = some (0, (p : Int), F, W, Ld) → laC J p F W → K 29 [some (vR 6), some (vR 1), some (vI (p : Int)), none] [] (sh, J, L) (0, 0) := by
        intro J c FJ hp hr hc
        refine B_X4_readPlaces_29 hK hs (k := ?_)
        refine s_numR hs (n := 3) (fun d v => ((d : Int), (p : Int) + 1, up F p v, up W p 0, Ld)) hp hr (by decide) (by decide) (fun ch z _ => la_d0 z) (fun d v ch z1 z2 z => la_d1 z1 z2 z) (fun J2 c2 d2 v F2 hp2 hr2 b1 b2 b3 b4 b5 => ?_) (fun J2 F2 hp2 nd => ?_)
        · have v9 : v ≤ 999 := by
            have : d2 = 1 ∨ d2 = 2 ∨ d2 = 3 := by omega
            rcases this with z | z | z <;> rw [z] at b3 <;> omega
          refine B_X4_readPlaces_35 hK (n37 := by omega) (kt := fun _ => ?_) (kf := fun z => absurd b3.1 z)
          refine B_X4_readPlaces_42 hK hs (Ah0 := A) (b48 := by omega) (k := ?_)
          rw [Int.toNat_natCast]
          have hc2 := hc.fr F2
          have FJ2 := FJ.one F2
          -- one place more
          have nx : ∀ (J3 : Nat → Nat → Int) (c3 : Nat) (st3 y : Int), Fr [] [(1, 2)] (u2 J2 7 p v) J3 → pgA J3 pg len c3 → rdAt laStep s0 pg c3 = some (st3, (p : Int) + 1, up F p v, up W p y, Ld) → 1 ≤ st3 ∧ st3 ≤ 4 → (st3 < 3 → ¬ isDg (lkP pg len c3)) → (st3 < 4 → lkP pg len c3 ≠ 119) → K 68 [some (vR 6), some (vR 1), some (vI (p : Int)), none] [vI y, vI (p : Int), vR 8] (sh, J3, L) (0, 0) := by
            intro J3 c3 st3 y F3 hp3 hr3 q1 q2 q3
            refine B_X4_readPlaces_68 hK (ks0 := A.2.2.2.2.1) (b68 := by rw [A.2.2.2.2.2]; omega) (Ah0 := A) (k := ?_)
            rw [Int.toNat_natCast]
            refine ih (p + 1) _ c3 st3 (up F p v) (up W p y) (by omega) ?_ ((hp3.u (by decide) (by decide)).u (by decide) (by decide)) hr3 (fun z => absurd z (by omega)) (fun _ => ⟨q1, q2, q3⟩) ⟨uA, fun x hx => ?_⟩
            · have F4 : FrO I (u2 J2 7 p v) := FJ2.u 7 p v (by simp)
              exact ((F4.one F3).u 8 p y (by simp)).u 6 0 _ (by simp)
            · rw [uN (by decide), uN (by decide), uN (by decide), F3 7 x (by simp) (by simp)]
              by_cases e : x = p
              · subst e
                rw [uA, uA, up_at, up_at]
                exact ⟨rfl, rfl⟩
              · rw [uK e, uK e, up_ne e, up_ne e, F3 8 x (by simp) (by simp), uN (by decide)]
                exact hc2.2 x (by omega)
          refine s_take hs (hp2.u (by decide) (by decide)) (by decide) (fun t1 t2 t3 => ?_) (fun t => ?_)
          · refine B_X4_readPlaces_60 hK (n60 := by decide) (kt := fun z => absurd z (by decide)) (kf := fun _ => ?_)
            refine B_X4_readPlaces_63 hK (k := ?_)
            have g := rd_go hr2 t2 t1
            rw [la_w (by omega) (by omega), up_up] at g
            exact nx _ (c2 + 1) 4 1 (Fr.rf.u 1 2 _ (by simp)) t3 g (by decide) (fun z => absurd z (by decide)) (fun z => absurd z (by decide))
          · refine B_X4_readPlaces_60 hK (n60 := by decide) (kt := fun _ => ?_) (kf := fun z => absurd rfl z)
            refine B_X4_readPlaces_67 hK (k := ?_)
            exact nx _ c2 _ 0 Fr.rf (hp2.u (by decide) (by decide)) hr2 (by omega) (fun z => b4 (by omega)) (fun _ => t)
        · refine B_X4_readPlaces_35 hK (n37 := by decide) (kt := fun z => absurd z (by decide)) (kf := fun _ => ?_)
          refine B_X4_readPlaces_40 hK (k := ?_)
          refine k0 J2 c _ (FJ.one F2) hp2 (rd_no hr hp2.2.2.2.1 (fun _ => la_n0 (fun z => nd ⟨z, by have := z.1; omega⟩))) (by dsimp only; omega)
      refine B_X4_readPlaces_13 hK (n14 := by omega) (kt := fun z => ?_) (kf := fun z => ?_)
      · have := e0 (by omega)
        subst this
        exact num J c FJ hp hr hc
      · obtain ⟨q1, q2, q3⟩ := e1 (by omega)
        refine B_X4_readPlaces_17 hK hs (k := ?_)
        refine s_take hs hp (by decide) (fun t1 t2 t3 => ?_) (fun t => ?_)
        · refine B_X4_readPlaces_23 hK (n23 := by decide) (kt := fun _ => ?_) (kf := fun z => absurd (by decide) z)
          have g := rd_go hr t2 t1
          rw [la_c q1.1 q1.2 (by omega)] at g
          exact num _ (c + 1) (FJ.u 1 2 _ (by simp)) t3 g (hc.fr (Fr.rf.u 1 2 _ (by simp)))
        · refine B_X4_readPlaces_23 hK (n23 := by decide) (kt := fun z => absurd rfl z) (kf := fun _ => ?_)
          refine B_X4_readPlaces_26 hK (k := ?_)
          exact fin J c p st F W FJ hp hr ⟨by omega, by omega⟩ q1 q2 q3 (Or.inr t) hc
  refine lp 8 0 _ 0 0 F0 W0 (by omega) (Fr.rf.u 6 0 0 (by simp)) (h.u (by decide) (by decide)) ?_ (fun _ => rfl) (fun z => absurd z (by omega)) ⟨uA, fun x hx => absurd hx (by omega)⟩
  show some s0 = _
  rw [h0]
  rfl
