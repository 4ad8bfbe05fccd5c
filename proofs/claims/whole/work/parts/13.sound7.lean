section SND
variable {p : Program} {l : Launch} {e : Env} {R : Room} {s : State} {m : MethodId} {args : Array Value} {below : List Frame} {meth : Method} {c : Code} {cc : ByteArray} {nL : Nat} {own : String} {D : va_G} {ids : Nat → ClassId} {b : Nat} {Qf : State → Prop} {Q : oQ} {pc : Nat}
theorem so_copy (C : oCx p s m args c cc nL own D ids b) {i : Nat} (hl : Cond.methodLink own i arraycopyName ∈ oG) (hna : Cond.native arraycopyName ∈ oG) (hs : Cond.static arraycopyName ∈ oG) (hi : Cond.initialized "java/lang/System" ∈ oG) (hf : 1 ≤ R.frames) (hlo : 8 + (nativeFrameWords "java/lang/System" "arraycopy" 5 + 11) ≤ R.locals) (hd : decode cc pc = .ok (.invokestatic i, 3)) : oSn (oW p l e R s m args below meth c nL D ids b Qf) Q pc (o_copy (pc + 3)) := by
  intro lv st mm g kk H locs ls h1 h2 h3
  unfold o_copy at kk
  split at kk
  · rename_i n dp hd0 sp hs0 r
    obtain ⟨⟨k0, k1, n0, sp0, dp0, b0, b1, hr⟩, kk⟩ := kk
    have hw0 := oWs_at (ids := ids) (b := b) (h1.lt (q := hs0) (by omega))
    rw [oCe_num k0 (by omega) (by omega)] at hw0
    have hw1 := oWs_at (ids := ids) (b := b) (h1.lt (q := hd0) (by omega))
    rw [oCe_num k1 (by omega) (by omega)] at hw1
    have z0 := h1.2.2.2 hs0
    have z1 := h1.2.2.2 hd0
    have hK := C.2.2.2.2.2.1.1
    intro T hT X
    have hc0 : H[b + hs0]? = some (vp_cell (ids 13) (sL mm.1 hs0, .inl (fun i => Int32.ofInt (mm.2.1 hs0 i)))) := h1.2.1 hs0 _ hw0
    have hc1 : H[b + hd0]? = some (vp_cell (ids 13) (sL mm.1 hd0, .inl (fun i => Int32.ofInt (mm.2.1 hd0 i)))) := h1.2.1 hd0 _ hw1
    obtain ⟨-, q0, hq0, cm0, hqq0⟩ := (hK.2 0 _ rfl).1 (sL mm.1 hs0) (fun j => .int (Int32.ofInt (mm.2.1 hs0 j)))
    obtain ⟨-, q1, hq1, cm1, hqq1⟩ := (hK.2 0 _ rfl).1 (sL mm.1 hd0) (fun j => .int (Int32.ofInt (mm.2.1 hd0 j)))
    obtain ⟨vm', X', step⟩ := X.arraycopy C.1 C.2.2.2.1 (C.2.2.2.2.1 _ hl) (C.2.2.2.2.1 _ hna) (C.2.2.2.2.1 _ hs) (C.2.2.2.2.1 _ hi) (src := b + hs0) (dst := b + hd0) (cs := vp_cell (ids 13) (sL mm.1 hs0, .inl (fun i => Int32.ofInt (mm.2.1 hs0 i)))) (cd := vp_cell (ids 13) (sL mm.1 hd0, .inl (fun i => Int32.ofInt (mm.2.1 hd0 i)))) (srcPos := Int32.ofInt sp) (destPos := Int32.ofInt dp) (n := Int32.ofInt n) (by rw [hT]; exact hc0) (by rw [hT]; exact hc1)
      (fun _ h => by cases h) (fun _ h => by cases h) (fun h => by cases h) (fun h => by cases h) hq0 hq1 hqq0 hqq1 (by simp [refKind]) (on_nneg sp0 (by omega)) (on_nneg dp0 (by omega)) (on_nneg n0 (by omega))
      (by rw [on_t ⟨by omega, by omega⟩, on_t ⟨by omega, by omega⟩]; show ¬ _ > ((arrV (ids 13) (sL mm.1 hs0) (fun j => .int (Int32.ofInt (mm.2.1 hs0 j)))).slots.size : Int); rw [arrV_size]; omega)
      (by rw [on_t ⟨by omega, by omega⟩, on_t ⟨by omega, by omega⟩]; show ¬ _ > ((arrV (ids 13) (sL mm.1 hd0) (fun j => .int (Int32.ofInt (mm.2.1 hd0 j)))).slots.size : Int); rw [arrV_size]; omega)
      (fun vm₁ _ i hi => by
        have hi2 : i < n.toNat := by rw [on_cl n0 (by omega)] at hi; exact hi
        have e1 : (vp_cell (ids 13) (sL mm.1 hs0, .inl (fun i => Int32.ofInt (mm.2.1 hs0 i)))).slots.getD ((Int32.ofInt sp).toNatClampNeg + i) .null = .int (Int32.ofInt (mm.2.1 hs0 (sp.toNat + i))) := by
          show (arrV (ids 13) (sL mm.1 hs0) (fun j => .int (Int32.ofInt (mm.2.1 hs0 j)))).slots.getD _ _ = _
          rw [Array.getD_eq_getD_getElem?, on_cl sp0 (by omega), arrV_read _ _ (by omega)]
          rfl
        refine ⟨?_, ?_⟩
        · rw [e1]; rfl
        · rw [e1]; exact trivial)
      (g := F0 m pc ls (.int (Int32.ofInt n) :: .int (Int32.ofInt dp) :: .ref (b + hd0) :: .int (Int32.ofInt sp) :: .ref (b + hs0) :: r.map (oV b))) rfl (by rw [C.2.2.1]; exact h3.1) (rest := r.map (oV b)) rfl (by rw [C.2.1]; exact hd) hf (by show 2 * 0 + _ + _ ≤ _; rw [oCat_eq]; omega)
    have e1 : copied (vp_cell (ids 13) (sL mm.1 hs0, .inl (fun i => Int32.ofInt (mm.2.1 hs0 i)))) (vp_cell (ids 13) (sL mm.1 hd0, .inl (fun i => Int32.ofInt (mm.2.1 hd0 i)))) (Int32.ofInt sp) (Int32.ofInt dp) (Int32.ofInt n) = vp_cell (ids 13) (sL mm.1 hd0, .inl (va_cpy (fun i => Int32.ofInt (mm.2.1 hs0 i)) (fun i => Int32.ofInt (mm.2.1 hd0 i)) sp.toNat dp.toNat n.toNat)) := by
      have h4 : (Int32.ofInt sp).toNatClampNeg + (Int32.ofInt n).toNatClampNeg ≤ sL mm.1 hs0 := by rw [on_cl sp0 (by omega), on_cl n0 (by omega)]; omega
      rw [← on_cl sp0 (by omega), ← on_cl dp0 (by omega), ← on_cl n0 (by omega)]
      exact va_copied (fun z => .int z) (ids 13) (ids 13) (fun i => Int32.ofInt (mm.2.1 hs0 i)) (fun i => Int32.ofInt (mm.2.1 hd0 i)) h4
    rw [e1] at X' step
    have hlt : b + hd0 < H.size := (Array.getElem?_eq_some_iff.mp hc1).1
    generalize hcell : vp_cell (ids 13) (sL mm.1 hd0, .inl (va_cpy (fun i => Int32.ofInt (mm.2.1 hs0 i)) (fun i => Int32.ofInt (mm.2.1 hd0 i)) sp.toNat dp.toNat n.toNat)) = cell at X' step
    have hheap : ((T.setVm vm').setCell (b + hd0) cell).heap = H.setIfInBounds (b + hd0) cell := by rw [← hT]; rfl
    have oq : ∀ q : Nat, q ≠ b + hd0 → (H.setIfInBounds (b + hd0) cell)[q]? = H[q]? := fun q hq => by simp [Array.getElem?_setIfInBounds, Ne.symm hq]
    have hP := h1.2.1.set (e := .inl (ids 13, sL mm.1 hd0, .inl (va_cpy (fun i => Int32.ofInt (mm.2.1 hs0 i)) (fun i => Int32.ofInt (mm.2.1 hd0 i)) sp.toNat dp.toNat n.toNat))) (oWs_D ids b mm) hw1 (show (H.setIfInBounds (b + hd0) cell)[b + hd0]? = some _ by rw [← hcell]; simp [Array.getElem?_setIfInBounds, hlt]) oq
    rw [oWs_set (mm := mm) (mm' := (mm.1, oCpy mm.2.1 hs0 sp.toNat hd0 dp.toNat n.toNat, mm.2.2)) _ rfl ?_ (fun q hq => oCe_congr rfl rfl rfl (by funext j; simp [oCpy, hq]) rfl)] at hP
    · obtain ⟨t, a1, b1⟩ := kk _ _ ls ⟨by simp; exact h1.1, hP, h1.2.2.1, h1.2.2.2⟩ ⟨by simp; exact h2.1, fun q g1 g2 => by
          rw [oq q (fun e => g2 (by rw [e]; exact Nat.le_add_right b hd0))]
          exact h2.2.1 q g1 g2, fun q hq => by
          rcases List.mem_append.mp hq with h | h
          · exact h2.2.2 q h
          · obtain ⟨z, -, hz⟩ := List.mem_map.mp h
            rw [← hz]
            exact Nat.le_add_right b hd0⟩ h3 _ hheap X'
      exact ⟨t, step t a1, b1⟩
    · rw [oCe_num (mm := (mm.1, oCpy mm.2.1 hs0 sp.toNat hd0 dp.toNat n.toNat, mm.2.2)) (c := 13) k1 (by omega) (by omega)]
      refine congrArg (fun f => (Sum.inl (ids 13, sL mm.1 hd0, Sum.inl f) : va_E)) (funext fun j => ?_)
      by_cases hj : dp.toNat ≤ j ∧ j < dp.toNat + n.toNat
      · simp only [oCpy, va_cpy, if_pos hj, if_true]
      · simp only [oCpy, va_cpy, if_neg hj, if_true]
  · exact kk.elim
/-- the cells behind a new one -/
theorem w_new {mm : oM} {k n q : Nat} (hq : q < sN mm.1) : oCe ids b (sNew mm.1 k n, iNew mm.1 mm.2.1, lNew mm.1 mm.2.2) q = oCe ids b mm q := by
  have hne : q ≠ mm.1.1 := Nat.ne_of_lt hq
  refine oCe_congr ?_ ?_ ?_ ?_ ?_
  · simp [sK, sNew, u1, hne]
  · simp [sL, sNew, u1, hne]
  · funext j; simp [sR, sNew, hne]
  · funext j; simp [iNew, hne]
  · funext j; simp [lNew, hne]
theorem w_newOK {mm : oM} {k n : Nat} (hk : k < 18) (hn : n ≤ 65536) {H H1 : Heap} (h1 : oOK D ids b mm H) (z1 : H1.size = H.size + 1) (hP : va_P D vwCl (oWs ids b mm ++ [(b + sN mm.1, oCe ids b (sNew mm.1 k n, iNew mm.1 mm.2.1, lNew mm.1 mm.2.2) (sN mm.1))]) H1) : oOK D ids b (sNew mm.1 k n, iNew mm.1 mm.2.1, lNew mm.1 mm.2.2) H1 := by
  refine ⟨?_, ?_, ?_, ?_⟩
  · rw [z1, h1.1]; show b + mm.1.1 + 1 = b + (mm.1.1 + 1); omega
  · rw [oWs_push (mm' := (sNew mm.1 k n, iNew mm.1 mm.2.1, lNew mm.1 mm.2.2)) _ rfl rfl (fun q hq => w_new hq)] at hP
    exact hP
  · intro h hh
    have hh2 : mm.1.1 + 1 ≤ h := hh
    have hne : h ≠ mm.1.1 := by omega
    show 18 ≤ u1 mm.1.2.1 mm.1.1 k h
    simp only [u1, if_neg hne]
    exact h1.2.2.1 h (by show mm.1.1 ≤ h; omega)
  · intro h
    show u1 mm.1.2.2.1 mm.1.1 n h ≤ 65536
    unfold u1
    split
    · exact hn
    · exact h1.2.2.2 h
theorem so_new (C : oCx p s m args c cc nL own D ids b) {i : Nat} (k N : Nat) (X : String) (T : u_T) (Mc Ms : Nat) (hM : Mc ≤ R.cells ∧ Ms ≤ R.slots) (hk : k < 13) (hcl : vwCl[k]? = some (X, T, N)) (hN : N = nF k) (hu : ∀ w ∈ u_ws X T N, w ∈ oG) (hty : ∀ j, j < N → parseFieldDescriptor (T j).2.2.1 = some (oTy k j)) (hdf : ∀ j, j < N → (oTy k j = .int ∨ oTy k j = .boolean ∨ oTy k j = .long ∨ (∃ n, oTy k j = .object n) ∨ ∃ n, oTy k j = .array n)) (hl : Cond.classLink own i X ∈ oG) (hins : Cond.instantiable X N ∈ oG) (hini : Cond.initialized X ∈ oG) (hd : decode cc pc = .ok (.new i, 3)) : oSn (oW p l e R s m args below meth c nL D ids b Qf) Q pc (o_new k N Mc Ms (pc + 3)) := by
  intro lv st mm g kk H locs ls h1 h2 h3
  obtain ⟨⟨g1, g2⟩, kk⟩ := kk
  have hK := C.2.2.2.2.2.1.1
  have hKn := hK.1 k _ hcl
  refine W.newcK C.1 C.2.1 C.2.2.2.1 (C.2.2.2.2.1 _ hl) (C.2.2.2.2.1 _ hins) (C.2.2.2.2.1 _ hini) rfl hd (by omega) (by omega) hKn.2.1 rfl fun H1 kC hkC e1 z1 o1 => ?_
  have hP := h1.2.1
  have hkq : ∀ (k : Nat) (x : Nat × va_E), (oWs ids b mm)[k]? = some x → H1[x.1]? = H[x.1]? := fun k x hx => o1 x.1 ((hP k x hx).lt)
  have hnew : sK (sNew mm.1 k 0) (sN mm.1) = k := by simp [sK, sNew, u1, sN]
  have hP2 : va_P D vwCl (oWs ids b mm ++ [(b + sN mm.1, oCe ids b (sNew mm.1 k 0, iNew mm.1 mm.2.1, lNew mm.1 mm.2.2) (sN mm.1))]) H1 := by
    refine (hP.kept hkq).app (fun j x hx => ?_)
    have hz : j < 1 := (List.getElem?_eq_some_iff.mp hx).1
    rw [show j = 0 by omega] at hx
    cases hx
    rw [oCe_obj (mm := (sNew mm.1 k 0, iNew mm.1 mm.2.1, lNew mm.1 mm.2.2)) (c := k) hnew hk, ← h1.1]
    refine ⟨_, hcl, (u_born (oTy k) C.2.2.2.2.1 hu hKn hkC e1 hty).to (fun j hj => ?_)⟩
    have hv : vp_V (oFs b (sNew mm.1 k 0, iNew mm.1 mm.2.1, lNew mm.1 mm.2.2) k (sN mm.1)) j = oFv b (sNew mm.1 k 0, iNew mm.1 mm.2.1, lNew mm.1 mm.2.2) k (sN mm.1) j := by
      simp only [vp_V, List.getD_eq_getElem?_getD, oFs_get (show j < nF k by omega), Option.getD_some]
    rw [hv]
    have a1 : iNew mm.1 mm.2.1 (sN mm.1) j = 0 := by simp [iNew, sN]
    have a2 : lNew mm.1 mm.2.2 (sN mm.1) j = 0 := by simp [lNew, sN]
    have a3 : sR (sNew mm.1 k 0) (sN mm.1) j = none := by simp [sR, sNew, sN]
    rcases hdf j hj with z | z | z | ⟨n, z⟩ | ⟨n, z⟩ <;> (simp only [oFv, z, a1, a2, a3]; rfl)
  have ha : va_rf (some (b + sN mm.1)) = .ref H.size := by rw [h1.1]; rfl
  have k2 := kk H1 locs ls (w_newOK (by omega) (by omega) h1 z1 hP2) ⟨Nat.le_trans h2.1 (by omega), fun x q1 q2 => (o1 x (Nat.lt_of_lt_of_le q1 h2.1)).trans (h2.2.1 x q1 q2), h2.2.2⟩ h3
  have e2 : oV b (.inr (.inr (.inl (some (sN mm.1))))) = .ref H.size := by rw [h1.1]; rfl
  rw [List.map_cons, e2] at k2
  exact k2
theorem so_newa (C : oCx p s m args c cc nL own D ids b) (k t0 : Nat) {aty : ArrayType} (ty : FieldType) (hty : newarray.typeOf aty = ty) (Mc Ms : Nat) (hM : Mc ≤ R.cells ∧ Ms ≤ R.slots) (hk1 : 13 ≤ k) (hk2 : k < 16) (ht : (oTys ids)[t0]? = some (ids k, ty)) (hdf : defaultValue ty = .int 0) (hob : ∀ n, ty ≠ .object n) (hby : componentBytes ty ≤ 8) (hl : Cond.arrayClass ty ∈ oG) (hd : decode cc pc = .ok (.newarray aty, 2)) : oSn (oW p l e R s m args below meth c nL D ids b Qf) Q pc (o_newa k Mc Ms (pc + 2)) := by
  intro lv st mm g kk H locs ls h1 h2 h3
  unfold o_newa at kk
  split at kk
  · rename_i n r
    obtain ⟨⟨n0, n1, g1, g2⟩, kk⟩ := kk
    subst hty
    have hcl := on_cl n0 (by omega)
    refine va_newaK C.1 C.2.1 (C.2.2.2.2.1 _ hl) rfl hd rfl (on_nneg n0 (by omega)) hcl (by
      have : n.toNat * componentBytes (newarray.typeOf aty) ≤ 65536 * 8 := Nat.mul_le_mul (by omega) hby
      omega) (by omega) (by omega) rfl fun H1 cA e1 z1 o1 hAr hNm => ?_
    have hP := h1.2.1
    have hK := C.2.2.2.2.2.1.1
    have hcA : cA = ids k := by
      have h5 := (hK.2 t0 _ ht).2
      have h6 : s.vm.findClass ("[" ++ (newarray.typeOf aty).toString) = some (ids k) := by
        cases aty <;> exact h5
      exact Option.some.inj (hNm.symm.trans h6)
    subst hcA
    have hkq : ∀ (k : Nat) (x : Nat × va_E), (oWs ids b mm)[k]? = some x → H1[x.1]? = H[x.1]? := fun k x hx => o1 x.1 ((hP k x hx).lt)
    have hnew : sK (sNew mm.1 k n.toNat) (sN mm.1) = k := by simp [sK, sNew, u1, sN]
    have hnewL : sL (sNew mm.1 k n.toNat) (sN mm.1) = n.toNat := by simp [sL, sNew, u1, sN]
    have hP2 : va_P D vwCl (oWs ids b mm ++ [(b + sN mm.1, oCe ids b (sNew mm.1 k n.toNat, iNew mm.1 mm.2.1, lNew mm.1 mm.2.2) (sN mm.1))]) H1 := by
      refine (hP.kept hkq).app (fun j x hx => ?_)
      have hz : j < 1 := (List.getElem?_eq_some_iff.mp hx).1
      rw [show j = 0 by omega] at hx
      cases hx
      rw [oCe_num (mm := (sNew mm.1 k n.toNat, iNew mm.1 mm.2.1, lNew mm.1 mm.2.2)) (c := k) hnew hk1 hk2, ← h1.1]
      show H1[H.size]? = some (vp_cell (ids k) (sL (sNew mm.1 k n.toNat) (sN mm.1), Sum.inl fun i => Int32.ofInt (iNew mm.1 mm.2.1 (sN mm.1) i)))
      rw [e1, vp_cell_i, hnewL, hdf]
      congr 2
      funext j
      simp [iNew, sN]
    have k2 := kk H1 locs ls (w_newOK (by omega) (by omega) h1 z1 hP2) ⟨Nat.le_trans h2.1 (by omega), fun x q1 q2 => (o1 x (Nat.lt_of_lt_of_le q1 h2.1)).trans (h2.2.1 x q1 q2), h2.2.2⟩ h3
    have e2 : oV b (.inr (.inr (.inl (some (sN mm.1))))) = .ref H.size := by rw [h1.1]; rfl
    rw [List.map_cons, e2] at k2
    exact k2
  · exact kk.elim
theorem so_anew (C : oCx p s m args c cc nL own D ids b) (k t0 : Nat) {i : Nat} (E : String) (Mc Ms : Nat) (hM : Mc ≤ R.cells ∧ Ms ≤ R.slots) (hk1 : 16 ≤ k) (hk2 : k < 18) (ht : (oTys ids)[t0]? = some (ids k, .object E)) (hl : Cond.classLink own i E ∈ oG) (hao : va_AO E s) (hd : decode cc pc = .ok (.anewarray i, 3)) : oSn (oW p l e R s m args below meth c nL D ids b Qf) Q pc (o_newa k Mc Ms (pc + 3)) := by
  intro lv st mm g kk H locs ls h1 h2 h3
  unfold o_newa at kk
  split at kk
  · rename_i n r
    obtain ⟨⟨n0, n1, g1, g2⟩, kk⟩ := kk
    have hcl := on_cl n0 (by omega)
    refine W.anew C.1 C.2.1 C.2.2.2.1 (C.2.2.2.2.1 _ hl) (va_AO.use hao) rfl hd rfl (on_nneg n0 (by omega)) (by rw [hcl]; omega) (by omega) (by rw [hcl]; omega) fun cA kA comp f1 f2 f3 f4 => ?_
    rw [hcl]
    generalize hH1 : H.push ({ cls := cA, slots := Array.replicate n.toNat .null, vm := .none } : Cell) = H1
    have z1 : H1.size = H.size + 1 := by rw [← hH1, Array.size_push]
    have e1 : H1[H.size]? = some (arrV cA n.toNat (fun _ => .null)) := by rw [← hH1, Array.getElem?_push_size, ← arrV_new]
    have o1 : ∀ q : Nat, q < H.size → H1[q]? = H[q]? := fun q hq => by rw [← hH1, Array.getElem?_push, if_neg (Nat.ne_of_lt hq)]
    have hP := h1.2.1
    have hK := C.2.2.2.2.2.1.1
    have hcA : cA = ids k := by
      obtain ⟨kA2, comp2, w1, w2, w3, w4⟩ := (hK.2 t0 _ ht).2
      exact Option.some.inj (f1.symm.trans w4)
    subst hcA
    have hkq : ∀ (k : Nat) (x : Nat × va_E), (oWs ids b mm)[k]? = some x → H1[x.1]? = H[x.1]? := fun k x hx => o1 x.1 ((hP k x hx).lt)
    have hnew : sK (sNew mm.1 k n.toNat) (sN mm.1) = k := by simp [sK, sNew, u1, sN]
    have hnewL : sL (sNew mm.1 k n.toNat) (sN mm.1) = n.toNat := by simp [sL, sNew, u1, sN]
    have hP2 : va_P D vwCl (oWs ids b mm ++ [(b + sN mm.1, oCe ids b (sNew mm.1 k n.toNat, iNew mm.1 mm.2.1, lNew mm.1 mm.2.2) (sN mm.1))]) H1 := by
      refine (hP.kept hkq).app (fun j x hx => ?_)
      have hz : j < 1 := (List.getElem?_eq_some_iff.mp hx).1
      rw [show j = 0 by omega] at hx
      cases hx
      rw [oCe_ref (mm := (sNew mm.1 k n.toNat, iNew mm.1 mm.2.1, lNew mm.1 mm.2.2)) (c := k) hnew hk1, ← h1.1]
      show H1[H.size]? = some (vp_cell (ids k) (sL (sNew mm.1 k n.toNat) (sN mm.1), Sum.inr (Sum.inr (Sum.inr (Sum.inr fun i => (sR (sNew mm.1 k n.toNat) (sN mm.1) i).map (b + ·))))))
      rw [e1, vp_cell_q, hnewL]
      congr 2
      funext j
      simp [sR, sNew, sN, va_rf]
    have k2 := kk H1 locs ls (w_newOK (by omega) (by omega) h1 z1 hP2) ⟨Nat.le_trans h2.1 (by omega), fun x q1 q2 => (o1 x (Nat.lt_of_lt_of_le q1 h2.1)).trans (h2.2.1 x q1 q2), h2.2.2⟩ h3
    have e2 : oV b (.inr (.inr (.inl (some (sN mm.1))))) = .ref H.size := by rw [h1.1]; rfl
    rw [List.map_cons, e2] at k2
    exact k2
  · exact kk.elim
end SND
