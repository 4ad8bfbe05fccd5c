def oTy (c : Nat) : Nat → FieldType := match c with
  | 0 => tyX0
  | 1 => tyX1
  | 2 => tyX2
  | 3 => tyX3
  | 4 => tyX4
  | 5 => tyX5
  | 6 => tyX6
  | 7 => tyX7
  | 8 => tyX8
  | 9 => tyX9
  | 10 => tyX10
  | 11 => tyX11
  | _ => tyX12
def nF : Nat → Nat
  | 0 => 2
  | 1 => 2
  | 2 => 6
  | 3 => 2
  | 4 => 7
  | 5 => 2
  | 6 => 5
  | 7 => 14
  | 8 => 3
  | 9 => 4
  | 10 => 6
  | 11 => 18
  | _ => 60
def oFv (b : Nat) (mm : oM) (c h k : Nat) : Value := match oTy c k with
  | .long => .long (mm.2.2 h k)
  | .object _ => va_rf ((sR mm.1 h k).map (b + ·))
  | .array _ => va_rf ((sR mm.1 h k).map (b + ·))
  | _ => .int (Int32.ofInt (mm.2.1 h k))
def oFs (b : Nat) (mm : oM) (c h : Nat) : List Value := (List.range (nF c)).map (oFv b mm c h)
def oCe (ids : Nat → ClassId) (b : Nat) (mm : oM) (h : Nat) : va_E :=
  if sK mm.1 h < 13 then .inr (sK mm.1 h, oFs b mm (sK mm.1 h) h)
  else .inl (ids (sK mm.1 h), sL mm.1 h, if sK mm.1 h < 16 then .inl (fun i => Int32.ofInt (mm.2.1 h i)) else .inr (.inr (.inr (.inr (fun i => (sR mm.1 h i).map (b + ·))))))
def oWs (ids : Nat → ClassId) (b : Nat) (mm : oM) : va_W := (List.range (sN mm.1)).map (fun h => (b + h, oCe ids b mm h))
def oTys (ids : Nat → ClassId) : List (ClassId × FieldType) := [(ids 13, .int), (ids 14, .byte), (ids 15, .boolean), (ids 16, .object RX6), (ids 17, .object RX0)]
def oOK (D : va_G) (ids : Nat → ClassId) (b : Nat) (mm : oM) (H : Heap) : Prop := H.size = b + sN mm.1 ∧ va_P D vwCl (oWs ids b mm) H ∧ (∀ h, sN mm.1 ≤ h → 18 ≤ sK mm.1 h) ∧ (∀ h, sL mm.1 h ≤ 65536)
def oNcs : List (String × String) := [(RX0, RX1), (RX0, RX3), (RX0, RX5), (RX0, RX10), (RX1, RX3), (RX1, RX5), (RX1, RX10), (RX3, RX1), (RX3, RX5), (RX3, RX10), (RX5, RX1), (RX5, RX10), (RX10, RX1), (RX10, RX3), (RX10, RX5)]
def oYes : List Cond := [.castable RX1 RX0, .castable RX3 RX0, .castable RX5 RX0, .castable RX10 RX0, .castable RX5 RX3]
def oNst : List (String × Nat × MethodName × String) := [(RX11, 9, yX8_init, RX11), (RX11, 18, yX4_init, RX11), (RX11, 38, yX6_init, RX11), (RX11, 59, yX2_init, RX11), (RX2, 13, yX9_init, RX11), (RX2, 27, yX7_init, RX11)]
def oKn (D : va_G) (ids : Nat → ClassId) (U : State) : Prop := va_K D vwCl (oTys ids) U ∧ (∀ q ∈ oNcs, va_Nc q.1 q.2 U) ∧ (∀ w ∈ oYes, va_Nw w U) ∧ (∀ q ∈ oNst, va_Nw (.methodLinkNest q.1 q.2.1 q.2.2.1 q.2.2.2) U) ∧ va_AO RX6 U ∧ va_AO RX0 U
theorem oWs_at {ids : Nat → ClassId} {b : Nat} {mm : oM} {h : Nat} (hh : h < sN mm.1) : (oWs ids b mm)[h]? = some (b + h, oCe ids b mm h) := by
  simp [oWs, hh]
theorem oWs_D (ids : Nat → ClassId) (b : Nat) (mm : oM) : va_D (fun q => b ≤ q) (oWs ids b mm) := by
  have key : ∀ (i : Nat) (p : Nat × va_E), (oWs ids b mm)[i]? = some p → p.1 = b + i := by
    intro i p hi
    simp only [oWs, List.getElem?_map, Option.map_eq_some_iff] at hi
    obtain ⟨a, h1, h2⟩ := hi
    rw [List.getElem?_range] at h1
    · cases h1; rw [← h2]
    · exact Nat.lt_of_not_le (fun hle => by simp [hle] at h1)
  refine ⟨fun i j p q hi hj e => ?_, fun k q hk => ?_⟩
  · have h1 := key i p hi
    have h2 := key j q hj
    omega
  · have h1 := key k q hk
    show b ≤ q.1
    omega
theorem oWs_set {ids : Nat → ClassId} {b : Nat} {mm mm' : oM} {h : Nat} (e : va_E) (hn : sN mm'.1 = sN mm.1) (hh : oCe ids b mm' h = e) (ho : ∀ q, q ≠ h → oCe ids b mm' q = oCe ids b mm q) : (oWs ids b mm).set h (b + h, e) = oWs ids b mm' := by
  apply List.ext_getElem?
  intro i
  simp only [oWs, List.getElem?_set, List.getElem?_map, List.length_map, List.length_range, hn]
  by_cases hi : h = i
  · subst hi
    by_cases hl : h < sN mm.1
    · simp [hl, hh]
    · simp [hl]
  · by_cases hl : i < sN mm.1
    · simp [hi, hl, ho i (Ne.symm hi)]
    · simp [hi, hl]
theorem oWs_push {ids : Nat → ClassId} {b : Nat} {mm mm' : oM} (e : va_E) (hn : sN mm'.1 = sN mm.1 + 1) (hh : oCe ids b mm' (sN mm.1) = e) (ho : ∀ q, q < sN mm.1 → oCe ids b mm' q = oCe ids b mm q) : oWs ids b mm ++ [(b + sN mm.1, e)] = oWs ids b mm' := by
  simp only [oWs, hn, List.range_succ, List.map_append, List.map_cons, List.map_nil, hh]
  congr 1
  apply List.map_congr_left
  intro a ha
  rw [ho a (List.mem_range.mp ha)]
theorem oOK.lt {D : va_G} {ids : Nat → ClassId} {b : Nat} {mm : oM} {H : Heap} (h : oOK D ids b mm H) {q : Nat} (hq : sK mm.1 q < 18) : q < sN mm.1 := by
  apply Nat.lt_of_not_le
  intro hle
  have := h.2.2.1 q hle
  omega
theorem oCe_obj {ids : Nat → ClassId} {b : Nat} {mm : oM} {h c : Nat} (hk : sK mm.1 h = c) (hc : c < 13) : oCe ids b mm h = .inr (c, oFs b mm c h) := by
  subst hk; simp [oCe, hc]
theorem oCe_num {ids : Nat → ClassId} {b : Nat} {mm : oM} {h c : Nat} (hk : sK mm.1 h = c) (hc : 13 ≤ c) (hc2 : c < 16) : oCe ids b mm h = .inl (ids c, sL mm.1 h, .inl (fun i => Int32.ofInt (mm.2.1 h i))) := by
  subst hk; simp [oCe, hc2, Nat.not_lt.mpr hc]
theorem oCe_ref {ids : Nat → ClassId} {b : Nat} {mm : oM} {h c : Nat} (hk : sK mm.1 h = c) (hc : 16 ≤ c) : oCe ids b mm h = .inl (ids c, sL mm.1 h, .inr (.inr (.inr (.inr (fun i => (sR mm.1 h i).map (b + ·)))))) := by
  subst hk; simp [oCe, Nat.not_lt.mpr hc, Nat.not_lt.mpr (Nat.le_trans (by decide : 13 ≤ 16) hc)]
theorem oFs_get {b : Nat} {mm : oM} {c h k : Nat} (hk : k < nF c) : (oFs b mm c h)[k]? = some (oFv b mm c h k) := by
  simp [oFs, hk]
theorem oFs_len {b : Nat} {mm : oM} {c h : Nat} : (oFs b mm c h).length = nF c := by simp [oFs]
theorem oFs_set {b : Nat} {mm mm' : oM} {c h k : Nat} {v : Value} (hv : oFv b mm' c h k = v) (ho : ∀ j, j ≠ k → oFv b mm' c h j = oFv b mm c h j) : (oFs b mm c h).set k v = oFs b mm' c h := by
  apply List.ext_getElem?
  intro i
  simp only [oFs, List.getElem?_set, List.getElem?_map, List.length_map, List.length_range]
  by_cases hi : k = i
  · subst hi
    by_cases hl : k < nF c
    · simp [hl, hv]
    · simp [hl]
  · by_cases hl : i < nF c
    · simp [hi, hl, ho i (Ne.symm hi)]
    · simp [hi, hl]
