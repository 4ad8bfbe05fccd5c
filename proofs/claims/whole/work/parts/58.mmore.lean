/-! the reference: what one more of each is worth -/
def morB (I : Nat → Nat → Int) (plan march what : Int) : Int := barV I plan march (-1) (if 0 ≤ what ∧ what ≤ 4 then 1 else 0)
def morI (I : Nat → Nat → Int) (what : Int) : Nat → Nat → Int := u2 (u2 (u2 (u2 I 44 3 (I 44 3 + if what = 1 then 1 else 0)) 44 5 (I 44 5 + if what = 2 then 1 else 0)) 45 0 (I 45 0 + if what = 3 then 10 else 0)) 44 4 (I 44 4 - if what = 4 ∧ 0 < I 44 4 then 1 else 0)
def morN (I : Nat → Nat → Int) (p : Nat) (what : Int) : Int := if what = 0 ∧ (2 < I 52 p ∨ I 53 p = 3) then 1 else 0
noncomputable def morV (I : Nat → Nat → Int) (plan march what : Int) : Int := if morB I plan march what = 0 then (if morN I plan.toNat what = 1 ∨ I 44 21 = 30 then -100003 else anV I march.toNat plan.toNat 0 - anV (morI I what) march.toNat plan.toNat (if what = 0 then 1 else 0)) else if morB I plan march what = -101 then -100001 else if morB I plan march what = -103 then -100003 else -100002
def morA (I : Nat → Nat → Int) (plan march what : Int) : Int := if morB I plan march what = 0 ∧ ¬ (morN I plan.toNat what = 1 ∨ I 44 21 = 30) then I 44 21 + 1 else I 44 21
theorem mOK.mor {I : Nat → Nat → Int} (h : mOK I) {what : Int} (s1 : I 44 3 ≤ 99) (s2 : I 44 5 ≤ 9) (s3 : I 45 0 ≤ 999) : mOK (morI I what) := by
  obtain ⟨h1, h2, h3, h4, h5, h6, h7, h8, h9, h10, h11⟩ := h
  refine ⟨h1, ?_, ?_, ?_, h5, fun p hp => ?_, h7, h8, h9, h10, h11⟩
  · show 0 ≤ I 44 3 + (if what = 1 then 1 else 0) ∧ I 44 3 + (if what = 1 then 1 else 0) ≤ 100
    split <;> omega
  · show 0 ≤ I 44 4 - (if what = 4 ∧ 0 < I 44 4 then 1 else 0) ∧ I 44 4 - (if what = 4 ∧ 0 < I 44 4 then 1 else 0) ≤ 9
    split <;> omega
  · show 0 ≤ I 44 5 + (if what = 2 then 1 else 0) ∧ I 44 5 + (if what = 2 then 1 else 0) ≤ 10
    split <;> omega
  · have := h6 p hp
    have t0 := h6 0 (by decide)
    show 0 ≤ (if p = 0 then I 45 0 + (if what = 3 then 10 else 0) else I 45 p) ∧ (if p = 0 then I 45 0 + (if what = 3 then 10 else 0) else I 45 p) ≤ 1009
    split
    · split <;> omega
    · exact this
theorem Fr.mor {I J : Nat → Nat → Int} {what : Int} (F : FrQ I J) : FrQ (morI I what) (morI J what) := by
  have e3 : J 44 3 = I 44 3 := F 44 3 (by decide) (by decide)
  have e4 : J 44 4 = I 44 4 := F 44 4 (by decide) (by decide)
  have e5 : J 44 5 = I 44 5 := F 44 5 (by decide) (by decide)
  have e0 : J 45 0 = I 45 0 := F 45 0 (by decide) (by decide)
  unfold morI
  rw [e3, e4, e5, e0]
  exact ((((F.u2b 44 3 _).u2b 44 5 _).u2b 45 0 _).u2b 44 4 _)
theorem u2_same {I : Nat → Nat → Int} {h k : Nat} {v : Int} : u2 I h k v h k = v := by
  unfold u2
  rw [if_pos rfl, if_pos rfl]
theorem u2_ne {I : Nat → Nat → Int} {h k a b : Nat} {v : Int} (n : ¬ (a = h ∧ b = k)) : u2 I h k v a b = I a b := by
  unfold u2
  by_cases e : a = h
  · rw [if_pos e, if_neg (fun z => n ⟨e, z⟩)]
  · rw [if_neg e]
theorem Fr.unmor {I J : Nat → Nat → Int} {what : Int} (F : FrQ (morI I what) J) : FrQ I (u2 (u2 (u2 (u2 J 44 3 (J 44 3 - if what = 1 then 1 else 0)) 44 5 (J 44 5 - if what = 2 then 1 else 0)) 45 0 (J 45 0 - if what = 3 then 10 else 0)) 44 4 (I 44 4)) := by
  have e3 : J 44 3 = I 44 3 + (if what = 1 then 1 else 0) := F 44 3 (by decide) (by decide)
  have e5 : J 44 5 = I 44 5 + (if what = 2 then 1 else 0) := F 44 5 (by decide) (by decide)
  have e0 : J 45 0 = I 45 0 + (if what = 3 then 10 else 0) := F 45 0 (by decide) (by decide)
  rw [e3, e5, e0, Int.add_sub_cancel, Int.add_sub_cancel, Int.add_sub_cancel]
  intro a b h1 h2
  have := F a b h1 h2
  by_cases c4 : a = 44 ∧ b = 4
  · rw [c4.1, c4.2, u2_same]
  rw [u2_ne c4]
  by_cases c0 : a = 45 ∧ b = 0
  · rw [c0.1, c0.2, u2_same]
  rw [u2_ne c0]
  by_cases c5 : a = 44 ∧ b = 5
  · rw [c5.1, c5.2, u2_same]
  rw [u2_ne c5]
  by_cases c3 : a = 44 ∧ b = 3
  · rw [c3.1, c3.2, u2_same]
  rw [u2_ne c3, this]
  unfold morI
  rw [u2_ne c4, u2_ne c0, u2_ne c5, u2_ne c3]
set_option maxHeartbeats 1000000 in
theorem s_mmore {sh : oS} {I : Nat → Nat → Int} {L : Nat → Nat → Int64} {Q : oQ} (hs : Sh sh) {plan march what : Int} (h : mOK I) (s1 : I 44 3 ≤ 99) (s2 : I 44 5 ≤ 9) (s3 : I 45 0 ≤ 999) (hq : 0 ≤ I 44 21 ∧ I 44 21 ≤ 30) (hp : inR plan) (hm : inR march) (hwh : inR what)
    (k : ∀ J, FrQ (u2 I 44 21 (morA I plan march what)) J → Q (some (vI (morV I plan march what))) (sh, J, L)) : T_X12_more [vR 44, vI plan, vI march, vI what] (sh, I, L) Q := by
  refine And.intro (Nat.le_of_ble_eq_true rfl) (fun K hK => ?_)
  refine B_X12_more_0 hK (k := ?_)
  refine s_within hwh (by decide) (by decide) (fun a ha => ?_)
  refine B_X12_more_10 hK hs (k := ?_)
  refine s_barsN hs h hp hm (by rw [ha]; split <;> decide) (fun r J F hr ri hz => ?_)
  have hb : morB I plan march what = r := by unfold morB; rw [← ha, ← hr]
  unfold morV morA at k
  rw [hb] at k
  refine B_X12_more_13 hK (n17 := ri) (kt := fun z => ?_) (kf := fun z => ?_)
  rotate_left
  · rw [if_neg z, if_neg (fun t => z t.1), u2_id] at k
    refine B_X12_more_20 hK (n24a := ri) (kt := fun y => ?_) (kf := fun y => ?_)
    · rw [if_neg y] at k
      refine B_X12_more_33 hK (n37a := ri) (kt := fun y2 => ?_) (kf := fun y2 => ?_)
      · rw [if_neg y2] at k
        exact B_X12_more_46 hK (k := B_X12_more_49 hK (k := k J F))
      · rw [if_pos (Classical.not_not.1 y2)] at k
        exact B_X12_more_40 hK (k := B_X12_more_49 hK (k := k J F))
    · rw [if_pos (Classical.not_not.1 y)] at k
      exact B_X12_more_27 hK (k := B_X12_more_49 hK (k := k J F))
  obtain ⟨p, m, e1, e2, q⟩ := hz z
  subst e1 e2
  have e21 : J 44 21 = I 44 21 := F 44 21 (by decide) (by decide)
  have e52 : J 52 p = I 52 p := F 52 p (by decide) (by simp)
  have e53 : J 53 p = I 53 p := F 53 p (by decide) (by simp)
  have hpp := q.2.1.1
  have h10 := h.2.2.2.2.2.2.2.2.2.1
  have h11 := h.2.2.2.2.2.2.2.2.2.2 p hpp
  have i52 := h11.2.1
  rw [if_pos z, Int.toNat_natCast, Int.toNat_natCast] at k
  have bad : (morN I p what = 1 ∨ I 44 21 = 30) → K 95 [none, none, none, none, none, none, none, none, none] [] (sh, J, L) (0, 0) := fun t => by
    rw [if_pos t, if_neg (fun u => u.2 t), u2_id] at k
    exact B_X12_more_95 hK (k := k J F)
  have tl : ∀ n, n = morN I p what → K 79 [some (vR 44), some (vI (p : Int)), none, some (vI what), none, none, none, none, none] [vI n] (sh, J, L) (0, 0) := by
    intro n en
    have nb : n = 0 ∨ n = 1 := by rw [en]; unfold morN; split <;> simp
    refine B_X12_more_79 hK (n83 := by omega) (kt := fun t => bad (Or.inl (by omega))) (kf := fun t => ?_)
    refine B_X12_more_86 hK hs (n92a := by omega) (kt := fun y => ?_) (kf := fun y => bad (Or.inr (by omega)))
    have ny : ¬ (morN I p what = 1 ∨ I 44 21 = 30) := fun u => u.elim (fun u => by omega) (fun u => by omega)
    rw [if_neg ny, if_pos ⟨z, ny⟩] at k
    refine B_X12_more_99 hK hs (k := ?_)
    rw [e21]
    generalize hx : I 44 21 + 1 = x at k ⊢
    have q' : mQ (u2 I 44 21 x) (u2 J 44 21 x) m p 0 := mQ_ask q
    have h' : mOK (u2 I 44 21 x) := h
    refine s_anew hs h' q'.1 q.2.1.1 q.2.1.2.1 q.2.1.2.2 q'.2.2.1 (by decide) (fun J1 q1 b1 => ?_)
    have ea : anV (u2 I 44 21 x) m p 0 = anV I m p 0 := rfl
    rw [ea] at b1 ⊢
    have f3 : J1 44 3 = I 44 3 := q1.1 44 3 (by decide) (by decide)
    have f4 : J1 44 4 = I 44 4 := q1.1 44 4 (by decide) (by decide)
    have f5 : J1 44 5 = I 44 5 := q1.1 44 5 (by decide) (by decide)
    have i4 := h.2.2.1
    have hm2 : mOK (morI (u2 I 44 21 x) what) := h'.mor s1 s2 s3
    -- the last piece
    have t5 : ∀ (J2 : Nat → Nat → Int), FrQ (morI (u2 I 44 21 x) what) J2 → K 219 [some (vR 44), none, none, some (vI what), none, none, some (vI (anV I m p 0)), some (vI (I 44 4)), none] [vI (anV (morI I what) m p (if what = 0 then 1 else 0))] (sh, J2, L) (0, 0) := by
      intro J2 F2
      have kk := k _ F2.unmor
      have c3 : ∀ s3, s3 = (if what = 3 then 10 else 0) → K 277 [some (vR 44), none, none, none, none, none, some (vI (anV I m p 0)), some (vI (I 44 4)), some (vI (anV (morI I what) m p (if what = 0 then 1 else 0)))] [vI s3, vI (J2 45 0), vI 0, vR 45] (sh, (u2 (u2 J2 44 3 (J2 44 3 - if what = 1 then 1 else 0)) 44 5 (J2 44 5 - if what = 2 then 1 else 0)), L) (0, 0) := by
        intro s3 es
        refine B_X12_more_277 hK hs (b278 := by decide) (k := ?_)
        rw [es]
        exact kk
      have c2 : ∀ s2, s2 = (if what = 2 then 1 else 0) → K 255 [some (vR 44), none, none, some (vI what), none, none, some (vI (anV I m p 0)), some (vI (I 44 4)), some (vI (anV (morI I what) m p (if what = 0 then 1 else 0)))] [vI s2, vI (J2 44 5), vR 44] (sh, (u2 J2 44 3 (J2 44 3 - if what = 1 then 1 else 0)), L) (0, 0) := by
        intro s2 es
        refine B_X12_more_255 hK hs (n268a := hwh) (kt := fun t => ?_) (kf := fun t => ?_)
        · rw [es]
          exact B_X12_more_276 hK (k := c3 0 (by rw [if_neg t]))
        · rw [es]
          exact B_X12_more_271 hK (k := c3 10 (by rw [if_pos (Classical.not_not.1 t)]))
      have c1 : ∀ s1, s1 = (if what = 1 then 1 else 0) → K 236 [some (vR 44), none, none, some (vI what), none, none, some (vI (anV I m p 0)), some (vI (I 44 4)), some (vI (anV (morI I what) m p (if what = 0 then 1 else 0)))] [vI s1, vI (J2 44 3), vR 44] (sh, J2, L) (0, 0) := by
        intro s1 es
        refine B_X12_more_236 hK hs (n247a := hwh) (kt := fun t => ?_) (kf := fun t => ?_)
        · rw [es]
          exact B_X12_more_254 hK (k := c2 0 (by rw [if_neg t]))
        · rw [es]
          exact B_X12_more_250 hK (k := c2 1 (by rw [if_pos (Classical.not_not.1 t)]))
      refine B_X12_more_219 hK hs (n228a := hwh) (kt := fun t => ?_) (kf := fun t => ?_)
      · exact B_X12_more_235 hK (k := c1 0 (by rw [if_neg t]))
      · exact B_X12_more_231 hK (k := c1 1 (by rw [if_pos (Classical.not_not.1 t)]))
    have fj : FrQ (morI (u2 I 44 21 x) what) (morI J1 what) := q1.1.mor
    have t4 : ∀ s4, s4 = (if what = 4 ∧ 0 < I 44 4 then 1 else 0) → K 201 [some (vR 44), some (vI (p : Int)), none, some (vI what), none, none, some (vI (anV I m p 0)), some (vI (I 44 4)), none] [vI s4, vI (J1 44 4), vR 44] (sh, (u2 (u2 (u2 J1 44 3 (J1 44 3 + if what = 1 then 1 else 0)) 44 5 (J1 44 5 + if what = 2 then 1 else 0)) 45 0 (J1 45 0 + if what = 3 then 10 else 0)), L) (0, 0) := by
      intro s4 es
      have ej : u2 (u2 (u2 (u2 J1 44 3 (J1 44 3 + if what = 1 then 1 else 0)) 44 5 (J1 44 5 + if what = 2 then 1 else 0)) 45 0 (J1 45 0 + if what = 3 then 10 else 0)) 44 4 (J1 44 4 - s4) = morI J1 what := by
        unfold morI
        rw [es, f4]
      have t6 : ∀ n, n = (if what = 0 then (1 : Int) else 0) → K 216 [some (vR 44), none, none, some (vI what), none, none, some (vI (anV I m p 0)), some (vI (I 44 4)), none] [vI n, vI (p : Int), vR 44] (sh, morI J1 what, L) (0, 0) := by
        intro n en
        refine B_X12_more_216 hK hs (k := ?_)
        refine s_anew hs hm2 fj q.2.1.1 q.2.1.2.1 q.2.1.2.2 q1.2.2.1 (by rw [en]; split <;> decide) (fun J2 q2 b2 => ?_)
        have ev : anV (morI (u2 I 44 21 x) what) m p n = anV (morI I what) m p n := rfl
        rw [ev, en]
        exact t5 J2 q2.1
      refine B_X12_more_201 hK hs (n208 := hwh) (kt := fun t => ?_) (kf := fun t => ?_)
      · rw [ej]
        exact B_X12_more_215 hK (k := t6 0 (by rw [if_neg t]))
      · rw [ej]
        exact B_X12_more_211 hK (k := t6 1 (by rw [if_pos (Classical.not_not.1 t)]))
    have t3 : ∀ s3, s3 = (if what = 3 then 10 else 0) → K 179 [some (vR 44), some (vI (p : Int)), none, some (vI what), none, none, some (vI (anV I m p 0)), some (vI (I 44 4)), none] [vI s3, vI (J1 45 0), vI 0, vR 45] (sh, (u2 (u2 J1 44 3 (J1 44 3 + if what = 1 then 1 else 0)) 44 5 (J1 44 5 + if what = 2 then 1 else 0)), L) (0, 0) := by
      intro s3 es
      refine B_X12_more_179 hK hs (b180 := by decide) (n188a := hwh) (kt := fun t => ?_) (kf := fun t => ?_)
      · rw [es]
        exact B_X12_more_200 hK (k := t4 0 (by rw [if_neg (fun u => t u.1)]))
      · rw [es]
        refine B_X12_more_191 hK (n193 := by omega) (kt := fun t2 => ?_) (kf := fun t2 => ?_)
        · exact B_X12_more_200 hK (k := t4 0 (by rw [if_neg (fun u => by omega)]))
        · exact B_X12_more_196 hK (k := t4 1 (by rw [if_pos ⟨Classical.not_not.1 t, by omega⟩]))
    have t2 : ∀ s2, s2 = (if what = 2 then 1 else 0) → K 157 [some (vR 44), some (vI (p : Int)), none, some (vI what), none, none, some (vI (anV I m p 0)), some (vI (I 44 4)), none] [vI s2, vI (J1 44 5), vR 44] (sh, (u2 J1 44 3 (J1 44 3 + if what = 1 then 1 else 0)), L) (0, 0) := by
      intro s2 es
      refine B_X12_more_157 hK hs (n170a := hwh) (kt := fun t => ?_) (kf := fun t => ?_)
      · rw [es]
        exact B_X12_more_178 hK (k := t3 0 (by rw [if_neg t]))
      · rw [es]
        exact B_X12_more_173 hK (k := t3 10 (by rw [if_pos (Classical.not_not.1 t)]))
    have t1 : ∀ s1, s1 = (if what = 1 then 1 else 0) → K 138 [some (vR 44), some (vI (p : Int)), none, some (vI what), none, none, some (vI (anV I m p 0)), some (vI (I 44 4)), none] [vI s1, vI (J1 44 3), vR 44] (sh, J1, L) (0, 0) := by
      intro s1 es
      refine B_X12_more_138 hK hs (n149a := hwh) (kt := fun t => ?_) (kf := fun t => ?_)
      · rw [es]
        exact B_X12_more_156 hK (k := t2 0 (by rw [if_neg t]))
      · rw [es]
        exact B_X12_more_152 hK (k := t2 1 (by rw [if_pos (Classical.not_not.1 t)]))
    refine B_X12_more_115 hK hs (n130a := hwh) (kt := fun t => ?_) (kf := fun t => ?_)
    · rw [f4]
      exact B_X12_more_137 hK (k := t1 0 (by rw [if_neg t]))
    · rw [f4]
      exact B_X12_more_133 hK (k := t1 1 (by rw [if_pos (Classical.not_not.1 t)]))
  refine B_X12_more_50 hK (n51 := hwh) (kt := fun t => ?_) (kf := fun t => ?_)
  · exact B_X12_more_78 hK (k := tl 0 (by unfold morN; rw [if_neg (fun u => t u.1)]))
  · have t := Classical.not_not.1 t
    refine B_X12_more_54 hK hs (b59 := by omega) (n61a := by rw [Int.toNat_natCast, e52]; omega) (kt := fun t2 => ?_) (kf := fun t2 => ?_)
    · rw [Int.toNat_natCast, e52] at t2
      exact B_X12_more_74 hK (k := tl 1 (by unfold morN; rw [if_pos ⟨t, Or.inl t2⟩]))
    · rw [Int.toNat_natCast, e52] at t2
      refine B_X12_more_64 hK hs (b69 := by omega) (n71a := by rw [Int.toNat_natCast, e53]; omega) (kt := fun t3 => ?_) (kf := fun t3 => ?_)
      · rw [Int.toNat_natCast, e53] at t3
        exact B_X12_more_78 hK (k := tl 0 (by unfold morN; rw [if_neg (fun u => u.2.elim t2 t3)]))
      · rw [Int.toNat_natCast, e53] at t3
        exact B_X12_more_74 hK (k := tl 1 (by unfold morN; rw [if_pos ⟨t, Or.inr (Classical.not_not.1 t3)⟩]))
