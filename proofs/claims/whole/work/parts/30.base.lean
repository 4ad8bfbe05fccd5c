/-- nothing has changed but in whole cells of hl and places of fl -/
def Fr (hl : List Nat) (fl : List (Nat × Nat)) (I J : Nat → Nat → Int) : Prop := ∀ h k, h ∉ hl → (h, k) ∉ fl → J h k = I h k
theorem Fr.rf {hl : List Nat} {fl : List (Nat × Nat)} {I : Nat → Nat → Int} : Fr hl fl I I := fun _ _ _ _ => rfl
theorem Fr.tr {hl hl2 hl3 : List Nat} {fl fl2 fl3 : List (Nat × Nat)} {I J J2 : Nat → Nat → Int} (a : Fr hl fl I J) (b : Fr hl2 fl2 J J2) (h1 : ∀ x ∈ hl, x ∈ hl3) (h2 : ∀ x ∈ hl2, x ∈ hl3) (f1 : ∀ x ∈ fl, x.1 ∈ hl3 ∨ x ∈ fl3) (f2 : ∀ x ∈ fl2, x.1 ∈ hl3 ∨ x ∈ fl3) : Fr hl3 fl3 I J2 := fun h k hh hf => by
  rw [b h k (fun z => hh (h2 h z)) (fun z => (f2 _ z).elim hh hf), a h k (fun z => hh (h1 h z)) (fun z => (f1 _ z).elim hh hf)]
theorem Fr.mono {hl hl3 : List Nat} {fl fl3 : List (Nat × Nat)} {I J : Nat → Nat → Int} (a : Fr hl fl I J) (h1 : ∀ x ∈ hl, x ∈ hl3) (f1 : ∀ x ∈ fl, x.1 ∈ hl3 ∨ x ∈ fl3) : Fr hl3 fl3 I J := fun h k hh hf => a h k (fun z => hh (h1 h z)) (fun z => (f1 _ z).elim hh hf)
theorem Fr.u {hl : List Nat} {fl : List (Nat × Nat)} {I J : Nat → Nat → Int} (a : Fr hl fl I J) (h k : Nat) (v : Int) (hh : h ∈ hl ∨ (h, k) ∈ fl) : Fr hl fl I (u2 J h k v) := fun h' k' q1 q2 => by
  unfold u2
  by_cases e : h' = h
  · subst e
    rw [if_pos rfl]
    by_cases e2 : k' = k
    · subst e2
      exact (hh.elim q1 q2).elim
    · rw [if_neg e2]; exact a _ _ q1 q2
  · rw [if_neg e]; exact a _ _ q1 q2
theorem fAnd1 (x : Int) : fAnd x 1 = 0 ∨ fAnd x 1 = 1 := by
  obtain ⟨j, h1, h2⟩ := pk_andE (Int32.ofInt x) (m := 1) 1 (by decide)
  have e : fAnd x 1 = (nI j).toInt := by unfold fAnd; rw [← h2]; rfl
  rw [e, nI_toInt (by omega)]
  omega
theorem fShl10 : fShl 1 0 = 1 := by decide
theorem fShl11 : fShl 1 1 = 2 := by decide
theorem fShl12 : fShl 1 2 = 4 := by decide
theorem swT_in {lo : Int} {ts : List Nat} {df : Nat} {x : Int} (i t : Nat) (hx : x = lo + i) (ht : ts[i]? = some t) : swT lo ts df x = t := by
  unfold swT
  rw [if_neg (by omega), show (x - lo).toNat = i by omega, List.getD_eq_getElem?_getD, ht]
  rfl
theorem swT_out {lo : Int} {ts : List Nat} {df : Nat} {x : Int} (hx : x < lo ∨ lo + ts.length ≤ x) : swT lo ts df x = df := by
  unfold swT
  split
  · rfl
  · rw [List.getD_eq_getElem?_getD, List.getElem?_eq_none (by omega)]
    rfl
theorem s_within {sh : oS} {I : Nat → Nat → Int} {L : Nat → Nat → Int64} {Q : oQ} {v lo hi : Int} (hv : inR v) (h1 : inR lo) (h2 : inR hi) (k : ∀ r, r = (if lo ≤ v ∧ v ≤ hi then 1 else 0) → Q (some (vI r)) (sh, I, L)) : T_X12_within [vI v, vI lo, vI hi] (sh, I, L) Q := by
  refine And.intro (Nat.le_of_ble_eq_true rfl) (fun K hK => ?_)
  refine B_X12_within_0 hK (n2a := by omega) (n2b := by omega) (kt := fun h0 => ?_) (kf := fun h0 => ?_)
  · refine B_X12_within_14 hK (k := ?_)
    refine B_X12_within_15 hK (o15 := by omega) (k := ?_)
    exact k _ (by split <;> omega)
  · refine B_X12_within_5 hK (n7a := by omega) (n7b := by omega) (kt := fun h5 => ?_) (kf := fun h5 => ?_)
    · refine B_X12_within_14 hK (k := ?_)
      refine B_X12_within_15 hK (o15 := by omega) (k := ?_)
      exact k _ (by split <;> omega)
    · refine B_X12_within_10 hK (k := ?_)
      refine B_X12_within_15 hK (o15 := by omega) (k := ?_)
      exact k _ (by split <;> omega)
theorem s_size {sh : oS} {I : Nat → Nat → Int} {L : Nat → Nat → Int64} {Q : oQ} {v : Int} (hv : inR v) (k : ∀ r, r = (if v < 0 then -v else v) → Q (some (vI r)) (sh, I, L)) : T_X12_size [vI v] (sh, I, L) Q := by
  refine And.intro (Nat.le_of_ble_eq_true rfl) (fun K hK => ?_)
  refine B_X12_size_0 hK (n1 := by omega) (kt := fun h0 => ?_) (kf := fun h0 => ?_)
  · refine B_X12_size_9 hK (k := ?_)
    refine B_X12_size_10 hK (k := ?_)
    exact k _ (by split <;> omega)
  · refine B_X12_size_4 hK (k := ?_)
    refine B_X12_size_10 hK (k := ?_)
    exact k _ (by split <;> omega)
theorem s_isDigit {sh : oS} {I : Nat → Nat → Int} {L : Nat → Nat → Int64} {Q : oQ} {v : Int} (hv : inR v) (k : ∀ r, r = (if 48 ≤ v ∧ v ≤ 57 then 1 else 0) → Q (some (vI r)) (sh, I, L)) : T_X12_isDigit [vI v] (sh, I, L) Q := by
  refine And.intro (Nat.le_of_ble_eq_true rfl) (fun K hK => ?_)
  refine B_X12_isDigit_0 hK (k := ?_)
  refine s_within hv (by decide) (by decide) (fun r hr => ?_)
  refine B_X12_isDigit_8 hK (o8 := by (split at hr <;> omega)) (k := ?_)
  exact k _ hr
theorem s_isPlan {sh : oS} {I : Nat → Nat → Int} {L : Nat → Nat → Int64} {Q : oQ} (hs : Sh sh) {v : Int} (hv : inR v) (h2 : 0 ≤ I 44 14 ∧ I 44 14 ≤ 1000) (k : ∀ r, r = (if 0 ≤ v ∧ v < I 44 14 then 1 else 0) → Q (some (vI r)) (sh, I, L)) : T_X12_isPlan [vR 44, vI v] (sh, I, L) Q := by
  refine And.intro (Nat.le_of_ble_eq_true rfl) (fun K hK => ?_)
  refine B_X12_isPlan_0 hK hs (k := ?_)
  refine s_within hv (by decide) (by omega) (fun r hr => ?_)
  refine B_X12_isPlan_11 hK (o11 := by (split at hr <;> omega)) (k := ?_)
  exact k _ (by rw [hr]; split <;> split <;> omega)
theorem s_isMarch {sh : oS} {I : Nat → Nat → Int} {L : Nat → Nat → Int64} {Q : oQ} (hs : Sh sh) {v : Int} (hv : inR v) (h2 : 0 ≤ I 44 8 ∧ I 44 8 ≤ 1000) (k : ∀ r, r = (if 0 ≤ v ∧ v < I 44 8 then 1 else 0) → Q (some (vI r)) (sh, I, L)) : T_X12_isMarch [vR 44, vI v] (sh, I, L) Q := by
  refine And.intro (Nat.le_of_ble_eq_true rfl) (fun K hK => ?_)
  refine B_X12_isMarch_0 hK hs (k := ?_)
  refine s_within hv (by decide) (by omega) (fun r hr => ?_)
  refine B_X12_isMarch_11 hK (o11 := by (split at hr <;> omega)) (k := ?_)
  exact k _ (by rw [hr]; split <;> split <;> omega)
theorem s_isPlace {sh : oS} {I : Nat → Nat → Int} {L : Nat → Nat → Int64} {Q : oQ} (hs : Sh sh) {v : Int} (hv : inR v) (h2 : 0 ≤ I 44 0 ∧ I 44 0 ≤ 1000) (k : ∀ r, r = (if 0 ≤ v ∧ v < I 44 0 then 1 else 0) → Q (some (vI r)) (sh, I, L)) : T_X12_isPlace [vR 44, vI v] (sh, I, L) Q := by
  refine And.intro (Nat.le_of_ble_eq_true rfl) (fun K hK => ?_)
  refine B_X12_isPlace_0 hK hs (k := ?_)
  refine s_within hv (by decide) (by omega) (fun r hr => ?_)
  refine B_X12_isPlace_11 hK (o11 := by (split at hr <;> omega)) (k := ?_)
  exact k _ (by rw [hr]; split <;> split <;> omega)
theorem s_allOn {sh : oS} {I : Nat → Nat → Int} {L : Nat → Nat → Int64} {Q : oQ} (hs : Sh sh) (k : Q (some (vI (fShl 1 (I 44 39) - 1))) (sh, I, L)) : T_X12_allOn [vR 44] (sh, I, L) Q := by
  refine And.intro (Nat.le_of_ble_eq_true rfl) (fun K hK => ?_)
  refine B_X12_allOn_0 hK hs (k := ?_)
  exact k
theorem s_landOf {sh : oS} {I : Nat → Nat → Int} {L : Nat → Nat → Int64} {Q : oQ} (hs : Sh sh) {v : Int} (hv : inR v) (k : ∀ r, r = (if v = 0 then I 44 0 else if v = 1 then I 44 3 else if v = 2 then I 44 4 else if v = 3 then I 44 5 else I 44 6) → Q (some (vI r)) (sh, I, L)) : T_X12_landOf [vR 44, vI v] (sh, I, L) Q := by
  refine And.intro (Nat.le_of_ble_eq_true rfl) (fun K hK => ?_)
  refine B_X12_landOf_0 hK (n1 := by omega) (kt := fun h0 => ?_) (kf := fun h0 => ?_)
  · refine B_X12_landOf_11 hK (n13a := by omega) (kt := fun h11 => ?_) (kf := fun h11 => ?_)
    · refine B_X12_landOf_23 hK (n25a := by omega) (kt := fun h23 => ?_) (kf := fun h23 => ?_)
      · refine B_X12_landOf_35 hK (n37a := by omega) (kt := fun h35 => ?_) (kf := fun h35 => ?_)
        · refine B_X12_landOf_47 hK hs (k := ?_)
          refine B_X12_landOf_51 hK (k := ?_)
          exact k _ (by (repeat' split) <;> omega)
        · refine B_X12_landOf_40 hK hs (k := ?_)
          refine B_X12_landOf_51 hK (k := ?_)
          exact k _ (by (repeat' split) <;> omega)
      · refine B_X12_landOf_28 hK hs (k := ?_)
        refine B_X12_landOf_51 hK (k := ?_)
        exact k _ (by (repeat' split) <;> omega)
    · refine B_X12_landOf_16 hK hs (k := ?_)
      refine B_X12_landOf_51 hK (k := ?_)
      exact k _ (by (repeat' split) <;> omega)
  · refine B_X12_landOf_4 hK hs (k := ?_)
    refine B_X12_landOf_51 hK (k := ?_)
    exact k _ (by (repeat' split) <;> omega)
