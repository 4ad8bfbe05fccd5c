theorem oGet_len : ∀ (lv : oLV) (i : Nat) (v : oA), oGet lv i = some v → i < lv.length
  | [], i, v, h => by simp [oGet] at h
  | o :: l, 0, v, h => by simp
  | o :: l, i + 1, v, h => by
    have := oGet_len l i v h
    simp only [List.length_cons]; omega
theorem oSt_len : ∀ (i : Nat) (v : oA) (lv : oLV), (oSt i v lv).length = lv.length
  | 0, v, [] => rfl
  | 1, v, [] => rfl
  | i + 2, v, [] => rfl
  | 0, v, o :: l => rfl
  | 1, v, o :: l => by simp only [oSt, List.length_cons, oSt_len 0 v l]
  | i + 2, v, o :: l => by simp only [oSt, List.length_cons, oSt_len (i + 1) v l]
theorem oUn1_len (lv : oLV) : (oUn1 lv).length = lv.length := by cases lv <;> rfl
theorem oSt2_len : ∀ (i : Nat) (v : oA) (lv : oLV), (oSt2 i v lv).length = lv.length
  | 0, v, [] => rfl
  | 1, v, [] => rfl
  | i + 2, v, [] => rfl
  | 0, v, o :: l => by simp only [oSt2, List.length_cons, oUn1_len]
  | 1, v, o :: l => by simp only [oSt2, List.length_cons, oSt2_len 0 v l]
  | i + 2, v, o :: l => by simp only [oSt2, List.length_cons, oSt2_len (i + 1) v l]
theorem no2_some {o : Option oA} {v : oA} (h : no2 o = some v) : o = some v ∧ ∀ b, ¬ (oV b v).category = 2 := by
  match o, h with
  | some (.inl x), h => simp only [no2, Option.some.injEq] at h; subst h; exact ⟨rfl, fun b => by simp [oV, Value.category]⟩
  | some (.inr (.inl x)), h => simp [no2] at h
  | some (.inr (.inr (.inl none))), h => simp only [no2, Option.some.injEq] at h; subst h; exact ⟨rfl, fun b => by simp [oV, Value.category]⟩
  | some (.inr (.inr (.inl (some x)))), h => simp only [no2, Option.some.injEq] at h; subst h; exact ⟨rfl, fun b => by simp [oV, Value.category]⟩
  | some (.inr (.inr (.inr x))), h => simp only [no2, Option.some.injEq] at h; subst h; exact ⟨rfl, fun b => by simp [oV, Value.category]⟩
  | none, h => simp [no2] at h
theorem oSt_get : ∀ (i : Nat) (v : oA) (lv : oLV) (j : Nat) (w : oA), oGet (oSt i v lv) j = some w → (j = i ∧ w = v) ∨ (j ≠ i ∧ oGet lv j = some w ∧ (j + 1 = i → ∀ b, ¬ (oV b w).category = 2))
  | 0, v, [], j, w, h => by simp [oSt, oGet] at h
  | 1, v, [], j, w, h => by simp [oSt, oGet] at h
  | i + 2, v, [], j, w, h => by simp [oSt, oGet] at h
  | 0, v, o :: l, 0, w, h => by
    simp only [oSt, oGet, Option.some.injEq] at h
    exact Or.inl ⟨rfl, h.symm⟩
  | 0, v, o :: l, j + 1, w, h => Or.inr ⟨by omega, h, fun e => by omega⟩
  | 1, v, o :: l, 0, w, h => by
    have h2 := no2_some (show no2 o = some w from h)
    exact Or.inr ⟨by omega, h2.1, fun _ => h2.2⟩
  | 1, v, o :: l, j + 1, w, h => by
    rcases oSt_get 0 v l j w h with ⟨a, b⟩ | ⟨a, b, c⟩
    · exact Or.inl ⟨by omega, b⟩
    · exact Or.inr ⟨by omega, b, fun e => by omega⟩
  | i + 2, v, o :: l, 0, w, h => Or.inr ⟨by omega, h, fun e => by omega⟩
  | i + 2, v, o :: l, j + 1, w, h => by
    rcases oSt_get (i + 1) v l j w h with ⟨a, b⟩ | ⟨a, b, c⟩
    · exact Or.inl ⟨by omega, b⟩
    · exact Or.inr ⟨by omega, b, fun e => c (by omega)⟩
theorem oSt2_get : ∀ (i : Nat) (v : oA) (lv : oLV) (j : Nat) (w : oA), oGet (oSt2 i v lv) j = some w → (j = i ∧ w = v) ∨ (j ≠ i ∧ j ≠ i + 1 ∧ oGet lv j = some w ∧ (j + 1 = i → ∀ b, ¬ (oV b w).category = 2))
  | 0, v, [], j, w, h => by simp [oSt2, oGet] at h
  | 1, v, [], j, w, h => by simp [oSt2, oGet] at h
  | i + 2, v, [], j, w, h => by simp [oSt2, oGet] at h
  | 0, v, o :: l, 0, w, h => by
    simp only [oSt2, oGet, Option.some.injEq] at h
    exact Or.inl ⟨rfl, h.symm⟩
  | 0, v, o :: [], j + 1, w, h => by simp [oSt2, oUn1, oGet] at h
  | 0, v, o :: o2 :: l, 1, w, h => by simp [oSt2, oUn1, oGet] at h
  | 0, v, o :: o2 :: l, j + 2, w, h => Or.inr ⟨by omega, by omega, h, fun e => by omega⟩
  | 1, v, o :: l, 0, w, h => by
    have h2 := no2_some (show no2 o = some w from h)
    exact Or.inr ⟨by omega, by omega, h2.1, fun _ => h2.2⟩
  | 1, v, o :: l, j + 1, w, h => by
    rcases oSt2_get 0 v l j w h with ⟨a, b⟩ | ⟨a, a2, b, c⟩
    · exact Or.inl ⟨by omega, b⟩
    · exact Or.inr ⟨by omega, by omega, b, fun e => by omega⟩
  | i + 2, v, o :: l, 0, w, h => Or.inr ⟨by omega, by omega, h, fun e => by omega⟩
  | i + 2, v, o :: l, j + 1, w, h => by
    rcases oSt2_get (i + 1) v l j w h with ⟨a, b⟩ | ⟨a, a2, b, c⟩
    · exact Or.inl ⟨by omega, b⟩
    · exact Or.inr ⟨by omega, by omega, b, fun e => c (by omega)⟩
theorem oMask_len : ∀ (bs : List Bool) (lv : oLV), (oMask bs lv).length = lv.length
  | [], lv => by cases lv <;> rfl
  | true :: bs, [] => rfl
  | false :: bs, [] => rfl
  | true :: bs, o :: l => by simp only [oMask, List.length_cons, oMask_len bs l]
  | false :: bs, o :: l => by simp only [oMask, List.length_cons, oMask_len bs l]
theorem oMask_get : ∀ (bs : List Bool) (lv : oLV) (i : Nat) (v : oA), oGet (oMask bs lv) i = some v → oGet lv i = some v
  | [], [], i, v, h => h
  | [], o :: l, i, v, h => h
  | true :: bs, [], i, v, h => h
  | false :: bs, [], i, v, h => h
  | true :: bs, o :: l, 0, v, h => h
  | false :: bs, o :: l, 0, v, h => by simp [oMask, oGet] at h
  | true :: bs, o :: l, i + 1, v, h => oMask_get bs l i v h
  | false :: bs, o :: l, i + 1, v, h => oMask_get bs l i v h
theorem oPad_get : ∀ (n : Nat) (lv : oLV) (i : Nat) (v : oA), oGet (oPad n lv) i = some v → oGet lv i = some v
  | 0, lv, i, v, h => by cases lv <;> exact h
  | n + 1, [], 0, v, h => by simp [oPad, oGet] at h
  | n + 1, [], i + 1, v, h => by
    have h2 := oPad_get n [] i v h
    simp [oGet] at h2
  | n + 1, o :: l, 0, v, h => h
  | n + 1, o :: l, i + 1, v, h => oPad_get n l i v h
theorem oPad_len : ∀ (n : Nat) (lv : oLV), lv.length ≤ n → (oPad n lv).length = n
  | 0, [], _ => rfl
  | 0, o :: l, h => by simp at h
  | n + 1, [], h => by simp only [oPad, List.length_cons, oPad_len n [] (by simp)]
  | n + 1, o :: l, h => by simp only [oPad, List.length_cons, oPad_len n l (by simp only [List.length_cons] at h; omega)]
def oLs (b nL : Nat) (lv : oLV) (ls : Array Slot) : Prop := ls.size = nL ∧ lv_wf ls ∧ lv.length = nL ∧ ∀ i v, oGet lv i = some v → ls[i]? = some (.val (oV b v))
def oPr (b : Nat) (lv : oLV) : List (Nat × Value) := (List.range lv.length).filterMap (fun i => (oGet lv i).map (fun v => (i, oV b v)))
theorem oLs.has {b nL : Nat} {lv : oLV} {ls : Array Slot} (h : oLs b nL lv ls) : lv_has ls nL (oPr b lv) := by
  refine ⟨h.1, h.2.1, fun q hq => ?_⟩
  obtain ⟨i, -, hi⟩ := List.mem_filterMap.mp hq
  simp only [Option.map_eq_some_iff] at hi
  obtain ⟨v, h1, rfl⟩ := hi
  exact h.2.2.2 i v h1
theorem oPr_mem {b : Nat} {lv : oLV} {i : Nat} {v : oA} (h : oGet lv i = some v) : (i, oV b v) ∈ oPr b lv :=
  List.mem_filterMap.mpr ⟨i, List.mem_range.mpr (oGet_len lv i v h), by rw [h]; rfl⟩
theorem oLs.st {b nL : Nat} {lv : oLV} {ls ls' : Array Slot} {i : Nat} {v : oA} (h : oLs b nL lv ls) (h' : lv_has ls' nL ((i, oV b v) :: (oPr b lv).filter (fun q => !(q.1 == i) && !(q.1 + 1 == i && q.2.category == 2)))) : oLs b nL (oSt i v lv) ls' := by
  refine ⟨h'.1, h'.2.1, by rw [oSt_len]; exact h.2.2.1, fun j w hj => ?_⟩
  rcases oSt_get i v lv j w hj with ⟨rfl, rfl⟩ | ⟨a, b1, c⟩
  · exact h'.2.2 (_, _) List.mem_cons_self
  · refine h'.2.2 (j, oV b w) (List.mem_cons_of_mem _ (List.mem_filter.mpr ⟨oPr_mem b1, ?_⟩))
    by_cases e : j + 1 = i
    · have := c e b
      simp [a, this]
    · simp [a, e]
theorem oLs.st2 {b nL : Nat} {lv : oLV} {ls ls' : Array Slot} {i : Nat} {v : oA} (h : oLs b nL lv ls) (h' : lv_has ls' nL ((i, oV b v) :: (oPr b lv).filter (fun q => !(q.1 == i) && (!(q.1 == i + 1) && !(q.1 + 1 == i && q.2.category == 2))))) : oLs b nL (oSt2 i v lv) ls' := by
  refine ⟨h'.1, h'.2.1, by rw [oSt2_len]; exact h.2.2.1, fun j w hj => ?_⟩
  rcases oSt2_get i v lv j w hj with ⟨rfl, rfl⟩ | ⟨a, a2, b1, c⟩
  · exact h'.2.2 (_, _) List.mem_cons_self
  · refine h'.2.2 (j, oV b w) (List.mem_cons_of_mem _ (List.mem_filter.mpr ⟨oPr_mem b1, ?_⟩))
    by_cases e : j + 1 = i
    · have := c e b
      simp [a, a2, this]
    · simp [a, a2, e]
theorem oLs.mask {b nL : Nat} {lv : oLV} {ls : Array Slot} (bs : List Bool) (h : oLs b nL lv ls) : oLs b nL (oMask bs lv) ls :=
  ⟨h.1, h.2.1, by rw [oMask_len]; exact h.2.2.1, fun i v hi => h.2.2.2 i v (oMask_get bs lv i v hi)⟩
theorem oArgs_get (b : Nat) : ∀ (av : List oA) (k i : Nat) (v : oA), oGet (oArgs av) i = some v → (k + i, oV b v) ∈ lv_args k (av.map (oV b))
  | [], k, i, v, h => by simp [oArgs, oGet] at h
  | .inl x :: l, k, 0, v, h => by
    simp only [oArgs, oGet, Option.some.injEq] at h
    subst h
    exact List.mem_cons_self
  | .inl x :: l, k, i + 1, v, h => by
    have h2 := oArgs_get b l (k + 1) i v h
    rw [show k + (i + 1) = k + 1 + i by omega]
    exact List.mem_cons_of_mem _ h2
  | .inr (.inl x) :: l, k, 0, v, h => by
    simp only [oArgs, oGet, Option.some.injEq] at h
    subst h
    exact List.mem_cons_self
  | .inr (.inl x) :: l, k, 1, v, h => by simp [oArgs, oGet] at h
  | .inr (.inl x) :: l, k, i + 2, v, h => by
    have h2 := oArgs_get b l (k + 2) i v h
    rw [show k + (i + 2) = k + 2 + i by omega]
    exact List.mem_cons_of_mem _ h2
  | .inr (.inr x) :: l, k, 0, v, h => by
    simp only [oArgs, oGet, Option.some.injEq] at h
    subst h
    exact List.mem_cons_self
  | .inr (.inr (.inl none)) :: l, k, i + 1, v, h => by
    have h2 := oArgs_get b l (k + 1) i v h
    rw [show k + (i + 1) = k + 1 + i by omega]
    exact List.mem_cons_of_mem _ h2
  | .inr (.inr (.inl (some a))) :: l, k, i + 1, v, h => by
    have h2 := oArgs_get b l (k + 1) i v h
    rw [show k + (i + 1) = k + 1 + i by omega]
    exact List.mem_cons_of_mem _ h2
  | .inr (.inr (.inr a)) :: l, k, i + 1, v, h => by
    have h2 := oArgs_get b l (k + 1) i v h
    rw [show k + (i + 1) = k + 1 + i by omega]
    exact List.mem_cons_of_mem _ h2
theorem oArgs_len (b : Nat) : ∀ av : List oA, (lg_sl (av.map (oV b))).length = (oArgs av).length
  | [] => rfl
  | .inl x :: l => by
    have := oArgs_len b l
    simp only [lg_sl, List.map_cons, List.flatMap_cons, List.length_append, oArgs, List.length_cons] at this ⊢
    rw [this]; simp [oV, Value.category]; omega
  | .inr (.inl x) :: l => by
    have := oArgs_len b l
    simp only [lg_sl, List.map_cons, List.flatMap_cons, List.length_append, oArgs, List.length_cons] at this ⊢
    rw [this]; simp [oV, Value.category]; omega
  | .inr (.inr (.inl none)) :: l => by
    have := oArgs_len b l
    simp only [lg_sl, List.map_cons, List.flatMap_cons, List.length_append, oArgs, List.length_cons] at this ⊢
    rw [this]; simp [oV, Value.category]; omega
  | .inr (.inr (.inl (some a))) :: l => by
    have := oArgs_len b l
    simp only [lg_sl, List.map_cons, List.flatMap_cons, List.length_append, oArgs, List.length_cons] at this ⊢
    rw [this]; simp [oV, Value.category]; omega
  | .inr (.inr (.inr a)) :: l => by
    have := oArgs_len b l
    simp only [lg_sl, List.map_cons, List.flatMap_cons, List.length_append, oArgs, List.length_cons] at this ⊢
    rw [this]; simp [oV, Value.category]; omega
theorem oLs.entry {b n : Nat} {av : List oA} {ls : Array Slot} (hn : (oArgs av).length ≤ n) (h : lv_has ls n (lv_args 0 (av.map (oV b)))) : oLs b n (oEnt av n) ls := by
  refine ⟨h.1, h.2.1, oPad_len n _ hn, fun i v hi => ?_⟩
  have h2 := oArgs_get b av 0 i v (oPad_get n _ i v hi)
  rw [Nat.zero_add] at h2
  exact h.2.2 _ h2
