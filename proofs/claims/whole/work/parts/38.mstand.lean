/-! stands of a plan: lists of place, first day, last day -/
theorem fn_eq {I J : Nat → Nat → Int} {hl : List Nat} {fl : List (Nat × Nat)} (a : Fr hl fl I J) (h : Nat) (q1 : h ∉ hl) (q2 : ∀ x ∈ fl, x.1 ≠ h) : J h = I h := by
  funext k
  exact a h k q1 (fun z => q2 _ z rfl)
abbrev stT := Int × Int × Int
def stG (l : List stT) (i : Nat) : stT := l.getD i (0, 0, 0)
theorem stG_l {l : List stT} {s : stT} {i : Nat} (h : i < l.length) : stG (l ++ [s]) i = stG l i := by
  simp [stG, List.getElem?_append_left h]
theorem stG_e {l : List stT} {s : stT} : stG (l ++ [s]) l.length = s := by
  simp [stG]
theorem stG_m {l : List stT} {i : Nat} (h : i < l.length) : stG l i ∈ l := by
  simp [stG, List.getElem?_eq_getElem h]
def mLs (I : Nat → Nat → Int) (l : List stT) : Prop := I 44 43 = (l.length : Int) ∧ ∀ i, i < l.length → I 68 i = (stG l i).1 ∧ I 69 i = (stG l i).2.1 ∧ I 70 i = (stG l i).2.2
def addF (P : Int) (wd : Nat → Int) (D p f t : Int) (l : List stT) : List stT := if ((0 ≤ p ∧ p < P) ∧ wd p.toNat ≠ 0) ∧ f ≤ (if D - 1 ≤ t then D - 1 else t) then l ++ [(p, f, if D - 1 ≤ t then D - 1 else t)] else l
def addS (P : Int) (wd : Nat → Int) (D p f t : Int) : Nat → List stT → List stT
  | 0, l => l
  | k + 1, l => addF P wd D p f t (addS P wd D p f t k l)
def stOK (P D : Int) (l : List stT) : Prop := ∀ s, s ∈ l → (0 ≤ s.1 ∧ s.1 < P) ∧ 0 ≤ s.2.1 ∧ s.2.1 ≤ s.2.2 ∧ s.2.2 < D
theorem stOK_nil {P D : Int} : stOK P D [] := fun s hs => by cases hs
theorem addF_ok {P D p f t : Int} {wd : Nat → Int} {l : List stT} (hf : 0 ≤ f) (h : stOK P D l) : stOK P D (addF P wd D p f t l) := by
  have he : (if D - 1 ≤ t then D - 1 else t) < D := by split <;> omega
  unfold addF
  generalize (if D - 1 ≤ t then D - 1 else t) = e at he
  split
  · rename_i q
    intro s hs
    rcases List.mem_append.1 hs with z | z
    · exact h s z
    · have e := List.mem_singleton.1 z
      subst e
      exact ⟨q.1.1, hf, q.2, he⟩
  · exact h
theorem addF_len {P D p f t : Int} {wd : Nat → Int} {l : List stT} : (addF P wd D p f t l).length ≤ l.length + 1 := by
  unfold addF
  generalize (if D - 1 ≤ t then D - 1 else t) = e
  split
  · simp
  · omega
theorem addS_ok {P D p f t : Int} {wd : Nat → Int} {l : List stT} (hf : 0 ≤ f) (h : stOK P D l) : ∀ k, stOK P D (addS P wd D p f t k l)
  | 0 => h
  | k + 1 => addF_ok hf (addS_ok hf h k)
theorem addS_len {P D p f t : Int} {wd : Nat → Int} {l : List stT} : ∀ k, (addS P wd D p f t k l).length ≤ l.length + k
  | 0 => Nat.le_refl _
  | k + 1 => by
    have a := addS_len (P := P) (D := D) (p := p) (f := f) (t := t) (wd := wd) (l := l) k
    have b := addF_len (P := P) (D := D) (p := p) (f := f) (t := t) (wd := wd) (l := addS P wd D p f t k l)
    show (addF P wd D p f t (addS P wd D p f t k l)).length ≤ _
    omega
theorem mLs_nil {I : Nat → Nat → Int} (h : I 44 43 = 0) : mLs I [] := ⟨h, fun i hi => absurd hi (Nat.not_lt_zero i)⟩
/-- what the reference's fields bear while stands are laid -/
def mLay (I : Nat → Nat → Int) : Prop := (0 ≤ I 44 0 ∧ I 44 0 ≤ 8) ∧ (0 ≤ I 44 38 ∧ I 44 38 ≤ 10) ∧ (∀ p, p < 8 → inR (I 46 p))
theorem mLay.fr {I J : Nat → Nat → Int} (h : mLay I) (e0 : J 44 0 = I 44 0) (e1 : J 44 38 = I 44 38) (e2 : J 46 = I 46) : mLay J := by
  unfold mLay
  rw [e0, e1, e2]
  exact h
theorem s_load {sh : oS} {I : Nat → Nat → Int} {L : Nat → Nat → Int64} {Q : oQ} (hs : Sh sh) {m : Nat} (hm : m < 4) (hd : 0 ≤ I 47 m ∧ I 47 m ≤ 10) (k : ∀ J, Fr [65, 66] [(44, 38), (44, 39)] I J → J 44 38 = I 47 m → J 44 39 = I 50 m → (∀ d : Nat, (d : Int) < I 47 m → J 65 d = I 48 (10 * m + d) ∧ J 66 d = I 49 (10 * m + d)) → Q none (sh, J, L)) : T_X12_load [vR 44, vI m] (sh, I, L) Q := by
  refine And.intro (Nat.le_of_ble_eq_true rfl) (fun K hK => ?_)
  refine B_X12_load_0 hK hs (b6 := by omega) (k := ?_)
  rw [Int.toNat_natCast]
  have lp : ∀ (q d : Nat) (J : Nat → Nat → Int), (d : Int) + q = I 47 m → Fr [65, 66] [(44, 38), (44, 39)] I J → J 44 38 = I 47 m → J 44 39 = I 50 m → (∀ i : Nat, i < d → J 65 i = I 48 (10 * m + i) ∧ J 66 i = I 49 (10 * m + i)) → K 22 [some (vR 44), some (vI m), some (vI d)] [] (sh, J, L) (0, 0) := by
    intro q
    induction q with
    | zero =>
      intro d J h0 hF e1 e2 h1
      refine B_X12_load_22 hK hs (n27a := by omega) (n27b := by omega) (kt := fun _ => ?_) (kf := fun z => absurd (by omega) z)
      exact B_X12_load_70 hK (k := k J hF e1 e2 (fun i hi => h1 i (by omega)))
    | succ q ih =>
      intro d J h0 hF e1 e2 h1
      refine B_X12_load_22 hK hs (n27a := by omega) (n27b := by omega) (kt := fun z => absurd z (by omega)) (kf := fun _ => ?_)
      refine B_X12_load_30 hK hs (b45 := by omega) (b46 := by omega) (k := ?_)
      rw [Int.toNat_natCast, show (10 * (m : Int) + (d : Int)).toNat = 10 * m + d by omega]
      have g := ih (d + 1) (u2 (u2 J 65 d (J 48 (10 * m + d))) 66 d (J 49 (10 * m + d))) (by omega) ((hF.u 65 d _ (by simp)).u 66 d _ (by simp)) (by simp [u2, e1]) (by simp [u2, e2]) (fun i hi => by
        have f1 := hF 48 (10 * m + i) (by decide) (by simp)
        have f2 := hF 49 (10 * m + i) (by decide) (by simp)
        by_cases e : i = d
        · subst e
          simp [u2, f1, f2]
        · have := h1 i (by omega)
          simp [u2, e, this])
      exact g
  exact lp (I 47 m).toNat 0 _ (by omega) ((Fr.rf.u 44 38 _ (by simp)).u 44 39 _ (by simp)) (by simp [u2]) (by simp [u2]) (fun i hi => absurd hi (Nat.not_lt_zero i))
theorem s_add {sh : oS} {I : Nat → Nat → Int} {L : Nat → Nat → Int64} {Q : oQ} (hs : Sh sh) {p f t : Int} {l : List stT} (h : mLay I) (hl : mLs I l) (hn : l.length < 40) (hp : inR p) (hf : inR f) (ht : inR t) (k : ∀ J, Fr [68, 69, 70] [(44, 43)] I J → mLs J (addF (I 44 0) (I 46) (I 44 38) p f t l) → Q none (sh, J, L)) : T_X12_add [vR 44, vI p, vI f, vI t] (sh, I, L) Q := by
  refine And.intro (Nat.le_of_ble_eq_true rfl) (fun K hK => ?_)
  obtain ⟨h1, h2, h3⟩ := id h
  have tl : ∀ e, e = (if I 44 38 - 1 ≤ t then I 44 38 - 1 else t) → K 20 [some (vR 44), some (vI p), some (vI f), none, none] [vI e] (sh, I, L) (0, 0) := by
    intro e he
    have hin : inR e := by rw [he]; split <;> omega
    have no : ¬ (((0 ≤ p ∧ p < I 44 0) ∧ I 46 p.toNat ≠ 0) ∧ f ≤ (if I 44 38 - 1 ≤ t then I 44 38 - 1 else t)) → K 86 [none, none, none, none, none] [] (sh, I, L) (0, 0) := fun z => by
      refine B_X12_add_86 hK (k := k I Fr.rf ?_)
      unfold addF
      rw [if_neg z]
      exact hl
    refine B_X12_add_20 hK hs (k := ?_)
    refine s_isPlace hs hp (by omega) (fun r hr => ?_)
    refine B_X12_add_27 hK (n27 := by rw [hr]; split <;> decide) (kt := fun z => no (fun y => ?_)) (kf := fun z => ?_)
    · rw [hr, if_pos y.1.1] at z
      exact absurd z (by decide)
    · have hp2 : 0 ≤ p ∧ p < I 44 0 := by
        by_cases q : 0 ≤ p ∧ p < I 44 0
        · exact q
        · rw [hr, if_neg q] at z
          exact absurd rfl z
      refine B_X12_add_30 hK hs (b35 := by omega) (n36 := h3 _ (by omega)) (kt := fun z => no (fun y => y.1.2 z)) (kf := fun z2 => ?_)
      refine B_X12_add_39 hK (n42a := hf) (n42b := hin) (kt := fun z => no (fun y => ?_)) (kf := fun z3 => ?_)
      · have := y.2
        rw [← he] at this
        omega
      · refine B_X12_add_45 hK hs (b54 := by rw [hl.1]; omega) (k := ?_)
        refine B_X12_add_86 hK (k := k _ ?_ ?_)
        · exact (((Fr.rf.u 68 _ _ (by simp)).u 69 _ _ (by simp)).u 70 _ _ (by simp)).u 44 43 _ (by simp)
        · unfold addF
          rw [← he, if_pos ⟨⟨hp2, z2⟩, by omega⟩]
          have e43 : (I 44 43).toNat = l.length := by rw [hl.1, Int.toNat_natCast]
          rw [e43]
          refine ⟨by simp [u2, hl.1], fun i hi => ?_⟩
          by_cases q : i = l.length
          · subst q
            rw [stG_e]
            simp [u2]
          · have hi2 : i < l.length := by simp at hi; omega
            have := hl.2 i hi2
            rw [stG_l hi2]
            simp [u2, q, this]
  refine B_X12_add_0 hK hs (n7a := ht) (n7b := by omega) (kt := fun z => ?_) (kf := fun z => ?_)
  · exact B_X12_add_14 hK hs (k := tl _ (by rw [if_pos z]))
  · exact B_X12_add_10 hK (k := tl _ (by rw [if_neg z]))
theorem s_addSome {sh : oS} {I : Nat → Nat → Int} {L : Nat → Nat → Int64} {Q : oQ} (hs : Sh sh) {p f t : Int} {l : List stT} {n : Nat} (h : mLay I) (hl : mLs I l) (hn : l.length + n ≤ 40) (hp : inR p) (hf : inR f) (ht : inR t) (k : ∀ J, Fr [68, 69, 70] [(44, 43)] I J → mLs J (addS (I 44 0) (I 46) (I 44 38) p f t n l) → Q none (sh, J, L)) : T_X12_addSome [vR 44, vI n, vI p, vI f, vI t] (sh, I, L) Q := by
  refine And.intro (Nat.le_of_ble_eq_true rfl) (fun K hK => ?_)
  have lp : ∀ (q d : Nat) (J : Nat → Nat → Int), d + q = n → Fr [68, 69, 70] [(44, 43)] I J → mLs J (addS (I 44 0) (I 46) (I 44 38) p f t d l) → K 3 [some (vR 44), some (vI n), some (vI p), some (vI f), some (vI t), some (vI d)] [] (sh, J, L) (0, 0) := by
    intro q
    induction q with
    | zero =>
      intro d J h0 hF hJ
      refine B_X12_addSome_3 hK (n6a := by omega) (n6b := by omega) (kt := fun _ => ?_) (kf := fun z => absurd (by omega) z)
      have e : d = n := by omega
      subst e
      exact B_X12_addSome_23 hK (k := k J hF hJ)
    | succ q ih =>
      intro d J h0 hF hJ
      refine B_X12_addSome_3 hK (n6a := by omega) (n6b := by omega) (kt := fun z => absurd z (by omega)) (kf := fun _ => ?_)
      refine B_X12_addSome_9 hK hs (k := ?_)
      have e0 : J 44 0 = I 44 0 := hF 44 0 (by decide) (by decide)
      have e1 : J 44 38 = I 44 38 := hF 44 38 (by decide) (by decide)
      have e2 : J 46 = I 46 := fn_eq hF 46 (by decide) (by decide)
      have len := addS_len (P := I 44 0) (D := I 44 38) (p := p) (f := f) (t := t) (wd := I 46) (l := l) d
      refine s_add hs (h.fr e0 e1 e2) hJ (by omega) hp hf ht (fun J2 F2 h2 => ?_)
      refine B_X12_addSome_17 hK (k := ?_)
      rw [e0, e1, e2] at h2
      exact ih (d + 1) J2 (by omega) (hF.tr F2 (by decide) (by decide) (by decide) (by decide)) h2
  exact B_X12_addSome_0 hK (k := lp n 0 I (by omega) Fr.rf hl)
def two (P : Int) (wd : Nat → Int) (D k a b : Int) : List stT := if k = 2 then addF P wd D b b D (addF P wd D a a D []) else addF P wd D a a D []
theorem two_ok {P D k a b : Int} {wd : Nat → Int} (ha : 0 ≤ a) (hb : 0 ≤ b) : stOK P D (two P wd D k a b) := by
  unfold two
  split
  · exact addF_ok hb (addF_ok ha stOK_nil)
  · exact addF_ok ha stOK_nil
theorem two_len {P D k a b : Int} {wd : Nat → Int} : (two P wd D k a b).length ≤ 2 := by
  have h1 := addF_len (P := P) (D := D) (p := a) (f := a) (t := D) (wd := wd) (l := [])
  have h2 := addF_len (P := P) (D := D) (p := b) (f := b) (t := D) (wd := wd) (l := addF P wd D a a D [])
  have h3 : ([] : List stT).length = 0 := rfl
  unfold two
  split <;> omega
theorem s_layTwo {sh : oS} {I : Nat → Nat → Int} {L : Nat → Nat → Int64} {Q : oQ} (hs : Sh sh) {n a b : Int} (h : mLay I) (hn : inR n) (ha : inR a) (hb : inR b) (k : ∀ J, Fr [68, 69, 70] [(44, 43)] I J → mLs J (two (I 44 0) (I 46) (I 44 38) n a b) → Q none (sh, J, L)) : T_X12_layTwo [vR 44, vI n, vI a, vI b] (sh, I, L) Q := by
  refine And.intro (Nat.le_of_ble_eq_true rfl) (fun K hK => ?_)
  refine B_X12_layTwo_0 hK hs (k := ?_)
  have g1 := h.2.1
  have F0 : Fr [68, 69, 70] [(44, 43)] I (u2 I 44 43 0) := Fr.rf.u 44 43 _ (by simp)
  have e0 : (u2 I 44 43 0) 44 0 = I 44 0 := by simp [u2]
  have e1 : (u2 I 44 43 0) 44 38 = I 44 38 := by simp [u2]
  have e2 : (u2 I 44 43 0) 46 = I 46 := fn_eq F0 46 (by decide) (by decide)
  refine s_add hs (l := []) (h.fr e0 e1 e2) (mLs_nil (by simp [u2])) (by decide) ha ha (by omega) (fun J1 F1 h1 => ?_)
  rw [e0, e1, e2] at h1
  have F01 : Fr [68, 69, 70] [(44, 43)] I J1 := F0.tr F1 (by decide) (by decide) (by decide) (by decide)
  refine B_X12_layTwo_15 hK (n17a := hn) (kt := fun z => ?_) (kf := fun z => ?_)
  · refine B_X12_layTwo_30 hK (k := k J1 F01 ?_)
    unfold two
    rw [if_neg z]
    exact h1
  · refine B_X12_layTwo_20 hK hs (k := ?_)
    have a0 : J1 44 0 = I 44 0 := F01 44 0 (by decide) (by decide)
    have a1 : J1 44 38 = I 44 38 := F01 44 38 (by decide) (by decide)
    have a2 : J1 46 = I 46 := fn_eq F01 46 (by decide) (by decide)
    have len := addF_len (P := I 44 0) (D := I 44 38) (p := a) (f := a) (t := I 44 38) (wd := I 46) (l := [])
    have l0 : ([] : List stT).length = 0 := rfl
    refine s_add hs (h.fr a0 a1 a2) h1 (by omega) hb hb (by omega) (fun J2 F2 h2 => ?_)
    rw [a0, a1, a2] at h2
    refine B_X12_layTwo_30 hK (k := k J2 (F01.tr F2 (by decide) (by decide) (by decide) (by decide)) ?_)
    unfold two
    rw [if_pos (Classical.not_not.1 z)]
    exact h2
def spF (wd : Nat → Int) : Nat → Int
  | 0 => -1
  | n + 1 => if wd n = 0 then spF wd n else n
theorem spF_bd {wd : Nat → Int} : ∀ n, -1 ≤ spF wd n ∧ spF wd n < n
  | 0 => by simp only [spF]; omega
  | n + 1 => by
    have := spF_bd (wd := wd) n
    unfold spF
    split <;> omega
theorem s_spot {sh : oS} {I : Nat → Nat → Int} {L : Nat → Nat → Int64} {Q : oQ} (hs : Sh sh) {d : Nat} (hd : d < 10) (hc : 0 ≤ I 67 d ∧ I 67 d < 8) (hw : ∀ p, p < 8 → inR (I 46 p)) (k : Q (some (vI (spF (I 46) (I 67 d + 1).toNat))) (sh, I, L)) : T_X12_spot [vR 44, vI d] (sh, I, L) Q := by
  refine And.intro (Nat.le_of_ble_eq_true rfl) (fun K hK => ?_)
  have lp : ∀ (q x : Nat), (x : Int) + q = I 67 d + 1 → K 4 [some (vR 44), some (vI d), some (vI (spF (I 46) x)), some (vI x)] [] (sh, I, L) (0, 0) := by
    intro q
    induction q with
    | zero =>
      intro x hx
      refine B_X12_spot_4 hK hs (b10 := by omega) (n11a := by omega) (n11b := by rw [Int.toNat_natCast]; omega) (kt := fun _ => ?_) (kf := fun z => absurd (by rw [Int.toNat_natCast]; omega) z)
      have e : (I 67 d + 1).toNat = x := by omega
      rw [e] at k
      exact B_X12_spot_35 hK (k := k)
    | succ q ih =>
      intro x hx
      refine B_X12_spot_4 hK hs (b10 := by omega) (n11a := by omega) (n11b := by rw [Int.toNat_natCast]; omega) (kt := fun z => absurd z (by rw [Int.toNat_natCast]; omega)) (kf := fun _ => ?_)
      have go := ih (x + 1) (by omega)
      unfold spF at go
      refine B_X12_spot_14 hK hs (b19 := by omega) (n20 := by rw [Int.toNat_natCast]; exact hw x (by omega)) (kt := fun z => ?_) (kf := fun z => ?_)
      · rw [Int.toNat_natCast] at z
        rw [if_pos z] at go
        exact B_X12_spot_27 hK (k := B_X12_spot_28 hK (k := go))
      · rw [Int.toNat_natCast] at z
        rw [if_neg z] at go
        exact B_X12_spot_23 hK (k := B_X12_spot_28 hK (k := go))
  exact B_X12_spot_0 hK (k := lp (I 67 d + 1).toNat 0 (by omega))
/-- the spot of a day: where the column is on that day, or that many days on -/
def spD (wd col : Nat → Int) (D kind n t : Int) : Int := spF wd (col (if (if kind = 2 then t + n else t) < D then (if kind = 2 then t + n else t) else D - 1).toNat + 1).toNat
theorem s_spotFor {sh : oS} {I : Nat → Nat → Int} {L : Nat → Nat → Int64} {Q : oQ} (hs : Sh sh) {kind n t : Int} (h : mLay I) (hk : inR kind) (hn : 0 ≤ n ∧ n ≤ 1000) (ht : 0 ≤ t ∧ t < I 44 38) (hc : ∀ d : Nat, (d : Int) < I 44 38 → 0 ≤ I 67 d ∧ I 67 d < 8) (k : Q (some (vI (spD (I 46) (I 67) (I 44 38) kind n t))) (sh, I, L)) : T_X12_spotFor [vR 44, vI kind, vI n, vI t] (sh, I, L) Q := by
  refine And.intro (Nat.le_of_ble_eq_true rfl) (fun K hK => ?_)
  obtain ⟨h1, h2, h3⟩ := id h
  have tl : ∀ e, e = (if kind = 2 then t + n else t) → K 12 [some (vR 44), none, none, none, none] [vI e] (sh, I, L) (0, 0) := by
    intro e he
    have e0 : 0 ≤ e ∧ e ≤ 2000 := by rw [he]; split <;> omega
    have tl2 : ∀ y, y = (if e < I 44 38 then e else I 44 38 - 1) → K 35 [none, none, none, none, none] [vI y, vR 44] (sh, I, L) (0, 0) := by
      intro y hy
      have y0 : 0 ≤ y ∧ y < I 44 38 := by rw [hy]; split <;> omega
      refine B_X12_spotFor_35 hK hs (k := ?_)
      obtain ⟨w, hw⟩ := Int.eq_ofNat_of_zero_le y0.1
      subst hw
      refine s_spot hs (d := w) (by omega) (hc w y0.2) h3 (B_X12_spotFor_38 hK (k := ?_))
      unfold spD at k
      rw [← he, ← hy, Int.toNat_natCast] at k
      exact k
    refine B_X12_spotFor_12 hK hs (n21a := by omega) (n21b := by omega) (kt := fun z => ?_) (kf := fun z => ?_)
    · exact B_X12_spotFor_29 hK hs (k := tl2 _ (by rw [if_neg (by omega)]))
    · exact B_X12_spotFor_24 hK (k := tl2 _ (by rw [if_pos (by omega)]))
  refine B_X12_spotFor_0 hK (n2a := hk) (kt := fun z => ?_) (kf := fun z => ?_)
  · exact B_X12_spotFor_11 hK (k := tl _ (by rw [if_neg z]))
  · exact B_X12_spotFor_5 hK (k := tl _ (by rw [if_pos (Classical.not_not.1 z)]))
