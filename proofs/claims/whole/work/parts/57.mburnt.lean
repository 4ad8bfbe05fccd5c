/-! the reference: a burnt mill -/
theorem mOK.fl {I : Nat → Nat → Int} (h : mOK I) {x : Nat} {v : Int} (hv : 0 ≤ v ∧ v ≤ 1009) : mOK (u2 I 45 x v) := by
  obtain ⟨h1, h2, h3, h4, h5, h6, h7, h8, h9, h10, h11⟩ := h
  refine ⟨h1, h2, h3, h4, h5, fun p hp => ?_, h7, h8, h9, h10, h11⟩
  have := h6 p hp
  unfold u2
  rw [if_pos rfl]
  split
  · exact hv
  · exact this
noncomputable def buF (g : Nat → Int) : Nat → Int × Int
  | 0 => (-1, 0)
  | n + 1 => if (buF g n).1 = -1 ∨ (buF g n).2 < g (n + 1) then (((n + 1 : Nat) : Int), g (n + 1)) else buF g n
def askA (I : Nat → Nat → Int) (b : Int) : Int := if b = 0 ∧ I 44 21 ≠ 30 then I 44 21 + 1 else I 44 21
def burB (I : Nat → Nat → Int) (plan march what : Int) : Int := barV I plan march (-1) (if 0 ≤ what ∧ what ≤ 1 then 1 else 0)
noncomputable def burG (I : Nat → Nat → Int) (m p : Nat) (x : Nat) : Int := anV (u2 I 45 x 0) m p 0 - anV I m p 0
noncomputable def burV (I : Nat → Nat → Int) (plan march what : Int) : Int := if burB I plan march what = 0 then (if I 44 21 = 30 then -103 else if what = 0 then (buF (burG I march.toNat plan.toNat) (I 44 0 - 1).toNat).1 else (buF (burG I march.toNat plan.toNat) (I 44 0 - 1).toNat).2) else burB I plan march what
theorem s_mburnt {sh : oS} {I : Nat → Nat → Int} {L : Nat → Nat → Int64} {Q : oQ} (hs : Sh sh) {plan march what : Int} (h : mOK I) (hq : 0 ≤ I 44 21 ∧ I 44 21 ≤ 30) (hp : inR plan) (hm : inR march) (hwh : inR what)
    (k : ∀ J, FrQ (u2 I 44 21 (askA I (burB I plan march what))) J → Q (some (vI (burV I plan march what))) (sh, J, L)) : T_X12_burnt [vR 44, vI plan, vI march, vI what] (sh, I, L) Q := by
  refine And.intro (Nat.le_of_ble_eq_true rfl) (fun K hK => ?_)
  refine B_X12_burnt_0 hK (k := ?_)
  refine s_within hwh (by decide) (by decide) (fun a ha => ?_)
  refine B_X12_burnt_10 hK hs (k := ?_)
  refine s_barsN hs h hp hm (by rw [ha]; split <;> decide) (fun r J F hr ri hz => ?_)
  have hb : burB I plan march what = r := by unfold burB; rw [← ha, ← hr]
  unfold burV askA at k
  rw [hb] at k
  refine B_X12_burnt_13 hK (n17 := ri) (kt := fun z => ?_) (kf := fun z => ?_)
  rotate_left
  · rw [if_neg z, if_neg (fun t => z t.1), u2_id] at k
    exact B_X12_burnt_20 hK (k := k J F)
  obtain ⟨p, m, e1, e2, q⟩ := hz z
  subst e1 e2
  have e21 : J 44 21 = I 44 21 := F 44 21 (by decide) (by decide)
  rw [if_pos z, Int.toNat_natCast, Int.toNat_natCast] at k
  refine B_X12_burnt_23 hK hs (n29a := by omega) (kt := fun y => ?_) (kf := fun y => ?_)
  rotate_left
  · have y := Classical.not_not.1 y
    rw [e21] at y
    rw [if_neg (fun t => t.2 y), if_pos y, u2_id] at k
    exact B_X12_burnt_32 hK (k := k J F)
  rw [e21] at y
  rw [if_pos ⟨z, y⟩, if_neg y] at k
  refine B_X12_burnt_35 hK hs (k := ?_)
  rw [e21]
  generalize hx : I 44 21 + 1 = x at k ⊢
  have q' : mQ (u2 I 44 21 x) (u2 J 44 21 x) m p 0 := mQ_ask q
  have h' : mOK (u2 I 44 21 x) := h
  refine s_anew hs h' q'.1 q.2.1.1 q.2.1.2.1 q.2.1.2.2 q'.2.2.1 (by decide) (fun J1 q1 b1 => ?_)
  have ea : anV (u2 I 44 21 x) m p 0 = anV I m p 0 := rfl
  rw [ea] at b1 ⊢
  refine B_X12_burnt_51 hK (k := ?_)
  generalize hg : burG I m p = g at k
  have hP := h.1
  have g3 := q.2.1.2.2
  have lp : ∀ (n y : Nat) (w : Int) (J : Nat → Nat → Int), w = (y : Int) + 1 → w + n = I 44 0 → FrQ (u2 I 44 21 x) J → mLd (u2 I 44 21 x) J m → (-1 ≤ (buF g y).1 ∧ (buF g y).1 ≤ 8) → (-990 ≤ (buF g y).2 ∧ (buF g y).2 ≤ 990) → K 62 [some (vR 44), some (vI (p : Int)), none, some (vI what), none, some (vI (anV I m p 0)), some (vI (buF g y).1), some (vI (buF g y).2), some (vI w), none, none, none] [] (sh, J, L) (0, 0) := by
    intro n
    induction n with
    | zero =>
      intro y w J hw hn FJ lJ c1 c2
      have e0 : J 44 0 = I 44 0 := FJ 44 0 (by decide) (by decide)
      refine B_X12_burnt_62 hK hs (n68a := by omega) (n68b := by omega) (kt := fun _ => ?_) (kf := fun t => absurd (by omega) t)
      have ey : (I 44 0 - 1).toNat = y := by omega
      rw [ey] at k
      refine B_X12_burnt_162 hK (n163 := hwh) (kt := fun t => ?_) (kf := fun t => ?_)
      · rw [if_neg t] at k
        exact B_X12_burnt_171 hK (k := B_X12_burnt_173 hK (k := k J FJ))
      · rw [if_pos (Classical.not_not.1 t)] at k
        exact B_X12_burnt_166 hK (k := B_X12_burnt_173 hK (k := k J FJ))
    | succ n ih =>
      intro y w J hw hn FJ lJ c1 c2
      have e0 : J 44 0 = I 44 0 := FJ 44 0 (by decide) (by decide)
      refine B_X12_burnt_62 hK hs (n68a := by omega) (n68b := by omega) (kt := fun t => absurd t (by omega)) (kf := fun _ => ?_)
      refine B_X12_burnt_71 hK hs (b77 := by omega) (k := ?_)
      have ewn : w.toNat = y + 1 := by omega
      have e45 : J 45 (y + 1) = I 45 (y + 1) := FJ 45 (y + 1) (by decide) (by simp)
      rw [ewn, e45]
      have hb2 : mOK (u2 (u2 I 44 21 x) 45 (y + 1) 0) := h'.fl (by decide)
      refine s_anew hs hb2 (FJ.u2b 45 (y + 1) 0) q.2.1.1 q.2.1.2.1 q.2.1.2.2 lJ (by decide) (fun J2 q2 b2 => ?_)
      have ev : anV (u2 (u2 I 44 21 x) 45 (y + 1) 0) m p 0 = anV (u2 I 45 (y + 1) 0) m p 0 := rfl
      rw [ev] at b2 ⊢
      have eg : anV (u2 I 45 (y + 1) 0) m p 0 - anV I m p 0 = g (y + 1) := by rw [← hg]; rfl
      have gb : -990 ≤ g (y + 1) ∧ g (y + 1) ≤ 990 := by omega
      have bk : FrQ (u2 I 44 21 x) (u2 J2 45 (y + 1) (I 45 (y + 1))) := q2.1.back
      have bl : mLd (u2 I 44 21 x) (u2 J2 45 (y + 1) (I 45 (y + 1))) m := q2.2.2.1
      have nx := ih (y + 1) (w + 1) _ (by omega) (by omega) bk bl
      have up : (buF g y).1 = -1 ∨ (buF g y).2 < g (y + 1) → K 121 [some (vR 44), some (vI (p : Int)), none, some (vI what), none, some (vI (anV I m p 0)), some (vI (buF g y).1), some (vI (buF g y).2), some (vI w), none, some (vI (g (y + 1))), none] [] (sh, (u2 J2 45 (y + 1) (I 45 (y + 1))), L) (0, 0) := fun t => by
        have bq : buF g (y + 1) = (w, g (y + 1)) := by
          show (if _ then _ else _) = _
          rw [if_pos t]
          simp
          omega
        rw [bq] at nx
        refine B_X12_burnt_121 hK (k := ?_)
        refine B_X12_burnt_126 hK (n130 := by decide) (kt := fun t => absurd t (by decide)) (kf := fun _ => ?_)
        refine B_X12_burnt_133 hK (k := ?_)
        refine B_X12_burnt_140 hK (n144 := by decide) (kt := fun t => absurd t (by decide)) (kf := fun _ => ?_)
        exact B_X12_burnt_147 hK (k := B_X12_burnt_154 hK (k := nx (by show -1 ≤ w ∧ w ≤ 8; omega) gb))
      refine B_X12_burnt_94 hK hs (b107 := by omega) (n111a := by omega) (kt := fun t => ?_) (kf := fun t => ?_)
      · rw [ewn, eg]
        exact up (Or.inl t)
      · rw [ewn, eg]
        refine B_X12_burnt_114 hK (n118a := by omega) (n118b := by omega) (kt := fun t2 => ?_) (kf := fun t2 => up (Or.inr (by omega)))
        have bq : buF g (y + 1) = buF g y := by
          show (if _ then _ else _) = _
          rw [if_neg (fun u => u.elim t (by omega))]
        rw [bq] at nx
        refine B_X12_burnt_125 hK (k := ?_)
        refine B_X12_burnt_126 hK (n130 := by decide) (kt := fun _ => ?_) (kf := fun t => absurd rfl t)
        refine B_X12_burnt_138 hK (k := ?_)
        refine B_X12_burnt_140 hK (n144 := by decide) (kt := fun _ => ?_) (kf := fun t => absurd rfl t)
        exact B_X12_burnt_152 hK (k := B_X12_burnt_154 hK (k := nx c1 c2))
  exact lp (I 44 0 - 1).toNat 0 1 J1 (by decide) (by omega) q1.1 q1.2.2.1 (show (-1 : Int) ≤ -1 ∧ (-1 : Int) ≤ 8 by decide) (show (-990 : Int) ≤ 0 ∧ (0 : Int) ≤ 990 by decide)
