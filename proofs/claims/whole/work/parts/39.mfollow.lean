/-! ovens that follow or leap; stands in their order -/
def skF (D : Int) (sp : Int → Int) : Nat → Int → Int × Int
  | 0, t => (t, -1)
  | f + 1, t => if D ≤ t then (t, -1) else if sp t = -1 then skF D sp f (t + 1) else (t, sp t)
theorem skF_bd {D : Int} {sp : Int → Int} (hsp : ∀ t, -1 ≤ sp t ∧ sp t < 8) : ∀ f t, t ≤ (skF D sp f t).1 ∧ (skF D sp f t).1 ≤ t + f ∧ -1 ≤ (skF D sp f t).2 ∧ (skF D sp f t).2 < 8
  | 0, t => by simp only [skF]; omega
  | f + 1, t => by
    have a := skF_bd (D := D) hsp f (t + 1)
    have b := hsp t
    unfold skF
    split
    · simp only []; omega
    · split
      · omega
      · simp only []; omega
def dif (a b : Int) : Int := if b - a < 0 then -(b - a) else b - a
def flF (P : Int) (wd : Nat → Int) (D : Int) (sp : Int → Int) (k : Nat) (n : Int) : Nat → Int → Int → List stT → List stT
  | 0, _, _, l => l
  | f + 1, t, last, l =>
    if (skF D sp 10 t).2 = -1 then l
    else if D ≤ (skF D sp 10 t).1 + (if last = -1 then 0 else dif last (skF D sp 10 t).2) then l
    else flF P wd D sp k n f ((skF D sp 10 t).1 + (if last = -1 then 0 else dif last (skF D sp 10 t).2) + n) (skF D sp 10 t).2 (addS P wd D (skF D sp 10 t).2 ((skF D sp 10 t).1 + (if last = -1 then 0 else dif last (skF D sp 10 t).2)) ((skF D sp 10 t).1 + (if last = -1 then 0 else dif last (skF D sp 10 t).2) + n - 1) k l)
theorem dif_bd {a b : Int} (ha : -1 ≤ a ∧ a < 8) (hb : -1 ≤ b ∧ b < 8) : 0 ≤ dif a b ∧ dif a b ≤ 8 := by
  unfold dif
  split <;> omega
theorem spD_bd {wd col : Nat → Int} {D kind n t : Int} (hc : ∀ d, 0 ≤ col d ∧ col d < 8) : -1 ≤ spD wd col D kind n t ∧ spD wd col D kind n t < 8 := by
  unfold spD
  generalize (if (if kind = 2 then t + n else t) < D then (if kind = 2 then t + n else t) else D - 1).toNat = x
  have h1 := hc x
  have h2 := spF_bd (wd := wd) (col x + 1).toNat
  omega
theorem flF_ok {P D : Int} {wd : Nat → Int} {sp : Int → Int} {k : Nat} {n : Int} (hsp : ∀ t, -1 ≤ sp t ∧ sp t < 8) (hn : 0 ≤ n) : ∀ f t last l, 0 ≤ t → (-1 ≤ last ∧ last < 8) → stOK P D l → stOK P D (flF P wd D sp k n f t last l)
  | 0, t, last, l, _, _, h => h
  | f + 1, t, last, l, ht, hl, h => by
    have b := skF_bd (D := D) hsp 10 t
    have c := dif_bd hl ⟨b.2.2.1, b.2.2.2⟩
    unfold flF
    generalize he : (if last = -1 then 0 else dif last (skF D sp 10 t).2) = e
    have e0 : 0 ≤ e := by rw [← he]; split <;> omega
    split
    · exact h
    · split
      · exact h
      · exact flF_ok hsp hn f _ _ _ (by omega) ⟨b.2.2.1, b.2.2.2⟩ (addS_ok (by omega) h k)
theorem flF_len {P D : Int} {wd : Nat → Int} {sp : Int → Int} {k : Nat} {n : Int} (hsp : ∀ t, -1 ≤ sp t ∧ sp t < 8) (hn : 1 ≤ n) (hD : D ≤ 10) (hk : k ≤ 4) : ∀ f t last (l : List stT), 0 ≤ t → (-1 ≤ last ∧ last < 8) → (l.length : Int) ≤ k * t → l.length ≤ 40 → (flF P wd D sp k n f t last l).length ≤ 40
  | 0, t, last, l, _, _, _, h => h
  | f + 1, t, last, l, ht, hl, hq, h => by
    have b := skF_bd (D := D) hsp 10 t
    have c := dif_bd hl ⟨b.2.2.1, b.2.2.2⟩
    unfold flF
    generalize he : (if last = -1 then 0 else dif last (skF D sp 10 t).2) = e
    have e0 : 0 ≤ e := by rw [← he]; split <;> omega
    split
    · exact h
    · split
      · exact h
      · rename_i z
        have len := addS_len (P := P) (D := D) (p := (skF D sp 10 t).2) (f := (skF D sp 10 t).1 + e) (t := (skF D sp 10 t).1 + e + n - 1) (wd := wd) (l := l) k
        generalize (skF D sp 10 t).1 = t1 at *
        have m1 : (k : Int) * t ≤ k * (t1 + e) := Int.mul_le_mul_of_nonneg_left (by omega) (by omega)
        have m2 : (k : Int) * (t1 + e) + k = k * (t1 + e + 1) := by rw [Int.mul_add (k : Int) (t1 + e) 1, Int.mul_one]
        have m3 : (k : Int) * (t1 + e + 1) ≤ k * (t1 + e + n) := Int.mul_le_mul_of_nonneg_left (by omega) (by omega)
        have m4 : (k : Int) * (t1 + e + 1) ≤ k * 10 := Int.mul_le_mul_of_nonneg_left (by omega) (by omega)
        exact flF_len hsp hn hD hk f _ _ _ (by omega) ⟨b.2.2.1, b.2.2.2⟩ (by omega) (by omega)
set_option maxHeartbeats 1000000 in
theorem s_layFollow {sh : oS} {I : Nat → Nat → Int} {L : Nat → Nat → Int64} {Q : oQ} (hs : Sh sh) {kind n : Int} {k : Nat} (h : mLay I) (hl : mLs I []) (hk : inR kind) (hk4 : k ≤ 4) (hn : 1 ≤ n ∧ n ≤ 1000) (hc : ∀ d : Nat, (d : Int) < I 44 38 → 0 ≤ I 67 d ∧ I 67 d < 8) (kk : ∀ J, Fr [68, 69, 70] [(44, 43)] I J → mLs J (flF (I 44 0) (I 46) (I 44 38) (spD (I 46) (I 67) (I 44 38) kind n) k n 10 0 (-1) []) → Q none (sh, J, L)) : T_X12_layFollow [vR 44, vI kind, vI k, vI n] (sh, I, L) Q := by
  refine And.intro (Nat.le_of_ble_eq_true rfl) (fun K hK => ?_)
  obtain ⟨h1, h2, h3⟩ := id h
  generalize hsp : spD (I 46) (I 67) (I 44 38) kind n = sp at kk
  have spb : ∀ t, 0 ≤ t → t < I 44 38 → -1 ≤ sp t ∧ sp t < 8 := fun t ht ht2 => by
    rw [← hsp]
    unfold spD
    have y : 0 ≤ (if (if kind = 2 then t + n else t) < I 44 38 then (if kind = 2 then t + n else t) else I 44 38 - 1) ∧ (if (if kind = 2 then t + n else t) < I 44 38 then (if kind = 2 then t + n else t) else I 44 38 - 1) < I 44 38 := by
      split <;> (try split) <;> omega
    generalize (if (if kind = 2 then t + n else t) < I 44 38 then (if kind = 2 then t + n else t) else I 44 38 - 1) = x at y
    have h1 := hc x.toNat (by omega)
    have h2 := spF_bd (wd := I 46) (I 67 x.toNat + 1).toNat
    omega
  have skb : ∀ (f : Nat) t, 0 ≤ t → t ≤ (skF (I 44 38) sp f t).1 ∧ (skF (I 44 38) sp f t).1 ≤ t + f ∧ -1 ≤ (skF (I 44 38) sp f t).2 ∧ (skF (I 44 38) sp f t).2 < 8 := by
    intro f
    induction f with
    | zero => intro t _; simp only [skF]; omega
    | succ f ih =>
      intro t ht
      have a := ih (t + 1) (by omega)
      unfold skF
      split
      · simp only []; omega
      · have b := spb t ht (by omega)
        split
        · omega
        · simp only []; omega
  have lp : ∀ (f : Nat) (t last : Int) (l : List stT) (J : Nat → Nat → Int), Fr [68, 69, 70] [(44, 43)] I J → mLs J l → 0 ≤ t → t ≤ 2000 → I 44 38 ≤ t + f → (-1 ≤ last ∧ last < 8) → (l.length : Int) ≤ k * t → (∀ J2, Fr [68, 69, 70] [(44, 43)] I J2 → mLs J2 (flF (I 44 0) (I 46) (I 44 38) sp k n f t last l) → Q none (sh, J2, L)) → K 9 [some (vR 44), some (vI kind), some (vI k), some (vI n), some (vI t), some (vI last), some (vI 1), none] [] (sh, J, L) (0, 0) := by
    intro f
    induction f with
    | zero =>
      intro t last l J hF hJ ht ht2 hf hla hlen fin
      have e1 : J 44 38 = I 44 38 := hF 44 38 (by decide) (by decide)
      have go := fin J hF hJ
      refine B_X12_layFollow_9 hK (n11 := by decide) (kt := fun z => absurd z (by decide)) (kf := fun _ => ?_)
      refine B_X12_layFollow_14 hK (k := ?_)
      refine B_X12_layFollow_17 hK hs (n23a := by omega) (n23b := by omega) (kt := fun _ => ?_) (kf := fun z => absurd (by omega) z)
      have fx : K 75 [some (vR 44), some (vI kind), some (vI k), some (vI n), none, some (vI last), none, some (vI (-1))] [vI t] (sh, J, L) (0, 0) := by
        refine B_X12_layFollow_75 hK (k := ?_)
        refine B_X12_layFollow_87 hK (n93a := by decide) (kt := fun _ => ?_) (kf := fun z => absurd rfl z)
        refine B_X12_layFollow_109 hK (k := ?_)
        refine B_X12_layFollow_110 hK (n114 := by decide) (kt := fun _ => ?_) (kf := fun z => absurd rfl z)
        refine B_X12_layFollow_142 hK (k := ?_)
        refine B_X12_layFollow_9 hK (n11 := by decide) (kt := fun _ => ?_) (kf := fun z => absurd rfl z)
        exact B_X12_layFollow_145 hK (k := go)
      refine B_X12_layFollow_61 hK (n66a := by omega) (kt := fun _ => fx) (kf := fun _ => ?_)
      exact B_X12_layFollow_69 hK (n72a := by decide) (kt := fun z => absurd rfl z) (kf := fun _ => fx)
    | succ f ih =>
      intro t last l J hF hJ ht ht2 hf hla hlen fin
      have e0 : J 44 0 = I 44 0 := hF 44 0 (by decide) (by decide)
      have e1 : J 44 38 = I 44 38 := hF 44 38 (by decide) (by decide)
      have e2 : J 46 = I 46 := fn_eq hF 46 (by decide) (by decide)
      have e67 : J 67 = I 67 := fn_eq hF 67 (by decide) (by decide)
      refine B_X12_layFollow_9 hK (n11 := by decide) (kt := fun z => absurd z (by decide)) (kf := fun _ => ?_)
      refine B_X12_layFollow_14 hK (k := ?_)
      -- a spot is sought
      have inn : ∀ (g : Nat) (x : Int), 0 ≤ x → x ≤ 2000 + 10 → I 44 38 ≤ x + g → K 61 [some (vR 44), some (vI kind), some (vI k), some (vI n), some (vI (skF (I 44 38) sp g x).1), some (vI last), none, some (vI (skF (I 44 38) sp g x).2)] [] (sh, J, L) (0, 0) → K 17 [some (vR 44), some (vI kind), some (vI k), some (vI n), some (vI x), some (vI last), none, some (vI (-1))] [] (sh, J, L) (0, 0) := by
        intro g
        induction g with
        | zero =>
          intro x hx hx2 hg go
          exact B_X12_layFollow_17 hK hs (n23a := by omega) (n23b := by omega) (kt := fun _ => go) (kf := fun z => absurd (by omega) z)
        | succ g ihg =>
          intro x hx hx2 hg go
          unfold skF at go
          refine B_X12_layFollow_17 hK hs (n23a := by omega) (n23b := by omega) (kt := fun z => ?_) (kf := fun z => ?_)
          · rw [if_pos (by omega)] at go
            exact go
          · rw [if_neg (by omega)] at go
            refine B_X12_layFollow_26 hK (n29a := by decide) (kt := fun y => absurd rfl y) (kf := fun _ => ?_)
            refine B_X12_layFollow_32 hK hs (k := ?_)
            have sb := spb x hx (by omega)
            refine s_spotFor hs (h.fr e0 e1 e2) hk (by omega) (by omega) (by rw [e1, e67]; exact hc) ?_
            rw [e1, e2, e67, hsp]
            refine B_X12_layFollow_40 hK (n47a := by omega) (kt := fun y => ?_) (kf := fun y => ?_)
            · rw [if_neg y] at go
              refine B_X12_layFollow_54 hK (k := B_X12_layFollow_55 hK (k := ?_))
              rw [Int.add_zero]
              refine B_X12_layFollow_17 hK hs (n23a := by omega) (n23b := by omega) (kt := fun z => absurd z (by omega)) (kf := fun z => ?_)
              exact B_X12_layFollow_26 hK (n29a := by omega) (kt := fun _ => go) (kf := fun v => absurd y v)
            · have y2 := Classical.not_not.1 y
              rw [if_pos y2] at go
              refine B_X12_layFollow_50 hK (k := B_X12_layFollow_55 hK (k := ?_))
              rw [y2]
              exact ihg (x + 1) (by omega) (by omega) (by omega) go
      refine inn 10 t ht (by omega) (by omega) ?_
      have sb := skb 10 t ht
      unfold flF at fin
      generalize (skF (I 44 38) sp 10 t).1 = t1 at sb fin ⊢
      generalize (skF (I 44 38) sp 10 t).2 = here at sb fin ⊢
      have db := dif_bd hla ⟨sb.2.2.1, sb.2.2.2⟩
      -- what follows the march from the last spot to this one
      have tl : ∀ e, (here ≠ -1 → e = (if last = -1 then 0 else dif last here)) → 0 ≤ e → e ≤ 8 → K 87 [some (vR 44), some (vI kind), some (vI k), some (vI n), none, some (vI last), none, some (vI here)] [vI e, vI t1] (sh, J, L) (0, 0) := by
        intro e he e1' e2'
        refine B_X12_layFollow_87 hK (n93a := by omega) (kt := fun z => ?_) (kf := fun z => ?_)
        · rw [if_pos z] at fin
          refine B_X12_layFollow_109 hK (k := ?_)
          refine B_X12_layFollow_110 hK (n114 := by decide) (kt := fun _ => ?_) (kf := fun z => absurd rfl z)
          refine B_X12_layFollow_142 hK (k := ?_)
          refine B_X12_layFollow_9 hK (n11 := by decide) (kt := fun _ => ?_) (kf := fun z => absurd rfl z)
          exact B_X12_layFollow_145 hK (k := fin J hF hJ)
        · rw [if_neg z, ← he z] at fin
          refine B_X12_layFollow_96 hK hs (n102a := by omega) (n102b := by omega) (kt := fun y => ?_) (kf := fun y => ?_)
          · rw [if_pos (by omega)] at fin
            refine B_X12_layFollow_109 hK (k := ?_)
            refine B_X12_layFollow_110 hK (n114 := by decide) (kt := fun _ => ?_) (kf := fun z => absurd rfl z)
            refine B_X12_layFollow_142 hK (k := ?_)
            refine B_X12_layFollow_9 hK (n11 := by decide) (kt := fun _ => ?_) (kf := fun z => absurd rfl z)
            exact B_X12_layFollow_145 hK (k := fin J hF hJ)
          · rw [if_neg (by omega)] at fin
            refine B_X12_layFollow_105 hK (k := ?_)
            refine B_X12_layFollow_110 hK (n114 := by decide) (kt := fun z => absurd z (by decide)) (kf := fun _ => ?_)
            refine B_X12_layFollow_117 hK hs (k := ?_)
            have len := addS_len (P := I 44 0) (D := I 44 38) (p := here) (f := t1 + e) (t := t1 + e + n - 1) (wd := I 46) (l := l) k
            have m1 : (k : Int) * t ≤ k * (t1 + e) := Int.mul_le_mul_of_nonneg_left (by omega) (by omega)
            have m2 : (k : Int) * (t1 + e) + k = k * (t1 + e + 1) := by rw [Int.mul_add (k : Int) (t1 + e) 1, Int.mul_one]
            have m3 : (k : Int) * (t1 + e + 1) ≤ k * (t1 + e + n) := Int.mul_le_mul_of_nonneg_left (by omega) (by omega)
            have m4 : (k : Int) * (t1 + e + 1) ≤ k * 10 := Int.mul_le_mul_of_nonneg_left (by omega) (by omega)
            refine s_addSome hs (h.fr e0 e1 e2) hJ (by omega) (by omega) (by omega) (by omega) (fun J2 F2 hJ2 => ?_)
            rw [e0, e1, e2] at hJ2
            refine B_X12_layFollow_132 hK (k := B_X12_layFollow_142 hK (k := ?_))
            exact ih (t1 + e + n) here _ J2 (hF.tr F2 (by decide) (by decide) (by decide) (by decide)) hJ2 (by omega) (by omega) (by omega) (by omega) (by omega) fin
      have none' : here = -1 ∨ last = -1 → K 75 [some (vR 44), some (vI kind), some (vI k), some (vI n), none, some (vI last), none, some (vI here)] [vI t1] (sh, J, L) (0, 0) := fun z => B_X12_layFollow_75 hK (k := tl 0 (fun y => by rcases z with z | z; exact absurd z y; rw [if_pos z]) (by omega) (by omega))
      refine B_X12_layFollow_61 hK (n66a := by omega) (kt := fun z => none' (Or.inr z)) (kf := fun z => ?_)
      refine B_X12_layFollow_69 hK (n72a := by omega) (kt := fun y => ?_) (kf := fun y => none' (Or.inl (Classical.not_not.1 y)))
      refine B_X12_layFollow_79 hK (k := ?_)
      refine s_size (by omega) (fun r hr => ?_)
      have hr2 : r = dif last here := hr
      exact tl r (fun _ => by rw [if_neg z]; exact hr2) (by omega) (by omega)
  exact B_X12_layFollow_0 hK (k := lp 10 0 (-1) [] I Fr.rf hl (by omega) (by omega) (by omega) (by omega) (by simp) kk)
