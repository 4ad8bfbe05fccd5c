def fMax (x y : Int) : Int := if x < y then y else x
def fMin (x y : Int) : Int := if y < x then y else x
def fAbs (x : Int) : Int := if 0 ≤ x then x else 0 - x
section SND
variable {p : Program} {l : Launch} {e : Env} {R : Room} {s : State} {m : MethodId} {args : Array Value} {below : List Frame} {meth : Method} {c : Code} {cc : ByteArray} {nL : Nat} {own : String} {D : va_G} {ids : Nat → ClassId} {b : Nat} {Qf : State → Prop} {Q : oQ} {pc : Nat}
theorem so_aald (C : oCx p s m args c cc nL own D ids b) (k : Nat) (hk0 : k = 16 ∨ k = 17) (hd : decode cc pc = .ok (.aaload, 1)) : oSn (oW p l e R s m args below meth c nL D ids b Qf) Q pc (o_aald k (pc + 1)) := by
  intro lv st mm g kk H locs ls h1 h2 h3
  unfold o_aald at kk
  split at kk
  · rename_i i h r
    obtain ⟨⟨hk, i0, i1⟩, q, hq, kk⟩ := kk
    have hw := oWs_at (ids := ids) (b := b) (h1.lt (q := h) (by omega))
    rw [oCe_ref hk (by omega)] at hw
    have hz := h1.2.2.2 h
    have k2 := kk H locs ls h1 h2 h3
    rcases hk0 with rfl | rfl
    · refine va_aldq C.1 C.2.1 C.2.2.2.2.2.1.1 h1.2.1 h 3 hw rfl (on_in i0 i1 hz) hd ?_
      rw [on_cl i0 (by omega), hq]
      exact k2
    · refine va_aldq C.1 C.2.1 C.2.2.2.2.2.1.1 h1.2.1 h 4 hw rfl (on_in i0 i1 hz) hd ?_
      rw [on_cl i0 (by omega), hq]
      exact k2
  · exact kk.elim
/-- a reference is stored in an array: v's kind q, E the array's -/
theorem so_aast (C : oCx p s m args c cc nL own D ids b) (k t0 : Nat) (E : String) (cs : List Nat) (hE : ∃ (ce : Nat) (rE : vw_C), vwCl[ce]? = some rE ∧ rE.1 = E) (hk1 : 16 ≤ k) (hk2 : k < 18) (ht : (oTys ids)[t0]? = some (ids k, .object E)) (hcs : ∀ q ∈ cs, q < 13 ∧ ∃ r, vwCl[q]? = some r ∧ (r.1 = E ∨ va_Nw (.castable r.1 E) s)) (hd : decode cc pc = .ok (.aastore, 1)) : oSn (oW p l e R s m args below meth c nL D ids b Qf) Q pc (o_aast k cs (pc + 1)) := by
  intro lv st mm g kk H locs ls h1 h2 h3
  unfold o_aast at kk
  split at kk
  · rename_i v i h r
    obtain ⟨⟨hk, i0, i1, hv⟩, kk⟩ := kk
    obtain ⟨hq, rr, hrr, hca⟩ := hcs _ hv
    have hw := oWs_at (ids := ids) (b := b) (h1.lt (q := h) (by omega))
    rw [oCe_ref hk (by omega)] at hw
    have hwv := oWs_at (ids := ids) (b := b) (h1.lt (q := v) (by omega))
    rw [oCe_obj rfl hq] at hwv
    have hz := h1.2.2.2 h
    have hK := C.2.2.2.2.2.1.1
    have hin := on_in i0 i1 hz
    have fin : ∀ (H1 : Heap) (locs1 : List Loc), H1.size = H.size → va_P D vwCl ((oWs ids b mm).set h (b + h, .inl (ids k, sL mm.1 h, .inr (.inr (.inr (.inr (va_up (fun i => (sR mm.1 h i).map (b + ·)) (Int32.ofInt i).toNatClampNeg (some (b + v))))))))) H1 → va_S (fun q => b ≤ q) s.heap H1 locs1 → W p l e R s m args below meth c H1 locs1 g.1 g.2 Qf (F0 m (pc + 1) ls (r.map (oV b))) := by
      intro H1 locs1 z1 hP g2
      refine kk H1 locs1 ls ⟨by rw [z1]; exact h1.1, ?_, h1.2.2.1, h1.2.2.2⟩ g2 h3
      rw [oWs_set (mm := mm) (mm' := (sPutR mm.1 h i.toNat (some v), mm.2)) _ rfl ?_ (fun q hq => w_R hq)] at hP
      · exact hP
      · rw [oCe_ref (mm := (sPutR mm.1 h i.toNat (some v), mm.2)) (c := k) hk hk1, on_cl i0 (by omega)]
        refine congrArg (fun f => (Sum.inl (ids k, sL mm.1 h, Sum.inr (Sum.inr (Sum.inr (Sum.inr f)))) : va_E)) (funext fun j => ?_)
        by_cases hj : j = i.toNat
        · subst hj; simp [va_up, sPutR, sR, u2R]
        · simp [va_up, sPutR, sR, u2R, hj]
    obtain ⟨r', hr', cellV, y1, y2, y3, -⟩ := h1.2.1 v _ hwv
    have hcls := (hK.1 _ rr hrr).2
    obtain ⟨kA, comp, w1, w2, w3, -⟩ := (hK.2 t0 _ ht).2
    have hlt : (Int32.ofInt i).toNatClampNeg < sL mm.1 h := Nat.not_le.mp fun q => hin (Or.inr q)
    have hi0 : ¬ Int32.ofInt i < 0 := fun q => hin (Or.inl q)
    obtain ⟨kC, hkC, -⟩ := hcls.2
    have hasg : s.vm.assignable cellV.cls comp = true ∧ ∃ kc, s.vm.classes[comp]? = some kc := by
      rcases hca with he | hca
      · have e2 : comp = D.1 (sK mm.1 v) := Option.some.inj (w3.symm.trans (by rw [← he]; exact hcls.1))
        rw [y2, e2]
        exact ⟨va_assign hcls, kC, hkC⟩
      · obtain ⟨c1, c2, z1, z2, z3⟩ := Cond.castable_spec hca
        have e1 : c1 = D.1 (sK mm.1 v) := Option.some.inj (z1.symm.trans hcls.1)
        have e2 : c2 = comp := Option.some.inj (z2.symm.trans w3)
        rw [y2, ← e1, ← e2]
        refine ⟨z3, ?_⟩
        rw [e2]
        obtain ⟨ce, rE, hrE, hEe⟩ := hE
        have hcE := (hK.1 ce rE hrE).2
        obtain ⟨kE, hkE, -⟩ := hcE.2
        have e3 : comp = D.1 ce := Option.some.inj (w3.symm.trans (by rw [← hEe]; exact hcE.1))
        rw [e3]
        exact ⟨kE, hkE⟩
    obtain ⟨kc, hkc⟩ := hasg.2
    refine W.aast C.1 C.2.1 (h1.2.1 h _ hw) (fun q h => by cases h) (fun h => by cases h) w1 w2 rfl hkc ⟨hi0, by show _ < (arrV _ _ _).slots.size; rw [arrV_size]; exact hlt⟩ y1 (fun q h => by rw [y3] at h; cases h) (by rw [y2]; exact hkC) hasg.1 rfl rfl hd fun H1 a1 a2 a3 => ?_
    refine fin H1 _ a2 (h1.2.1.set (oWs_D ids b mm) hw ?_ a3) (h2.put a2 a3 (Nat.le_add_right b h))
    show H1[b + h]? = some (vp_cell _ _)
    rw [a1]
    rw [vp_cell_q, vp_cell_q, arrV_store]
    congr 2
    funext q
    by_cases hq : q = (Int32.ofInt i).toNatClampNeg
    · subst hq; simp [updV, va_up, va_rf]
    · simp [updV, va_up, hq]
  · exact kk.elim
theorem so_alen (C : oCx p s m args c cc nL own D ids b) (hd : decode cc pc = .ok (.arraylength, 1)) : oSn (oW p l e R s m args below meth c nL D ids b Qf) Q pc (o_alen (pc + 1)) := by
  intro lv st mm g kk H locs ls h1 h2 h3
  unfold o_alen at kk
  split at kk
  · rename_i h r
    obtain ⟨⟨hk, hk2⟩, kk⟩ := kk
    have hw := oWs_at (ids := ids) (b := b) (h1.lt (q := h) hk2)
    have k2 := kk H locs ls h1 h2 h3
    have hK := C.2.2.2.2.2.1.1
    have hz : (oV b (.inl (sL mm.1 h : Int))) = .int (Int32.ofNat (sL mm.1 h)) := by simp only [oV, on_nat]
    rw [List.map_cons, hz] at k2
    rcases (show sK mm.1 h = 13 ∨ sK mm.1 h = 14 ∨ sK mm.1 h = 15 ∨ sK mm.1 h = 16 ∨ sK mm.1 h = 17 by omega) with z | z | z | z | z
    · rw [oCe_num z (by omega) (by omega)] at hw
      exact va_alen C.1 C.2.1 hK h1.2.1 h 0 hw rfl rfl hd k2
    · rw [oCe_num z (by omega) (by omega)] at hw
      exact va_alen C.1 C.2.1 hK h1.2.1 h 1 hw rfl rfl hd k2
    · rw [oCe_num z (by omega) (by omega)] at hw
      exact va_alen C.1 C.2.1 hK h1.2.1 h 2 hw rfl rfl hd k2
    · rw [oCe_ref z (by omega)] at hw
      exact va_alen C.1 C.2.1 hK h1.2.1 h 3 hw rfl rfl hd k2
    · rw [oCe_ref z (by omega)] at hw
      exact va_alen C.1 C.2.1 hK h1.2.1 h 4 hw rfl rfl hd k2
  · exact kk.elim
theorem rcv (C : oCx p s m args c cc nL own D ids b) {mm : oM} {H : Heap} (h1 : oOK D ids b mm H) {h : Nat} {r : vw_C} (hq : sK mm.1 h < 13) (hr : vwCl[sK mm.1 h]? = some r) : ∃ cell : Cell, H[b + h]? = some cell ∧ cell.vm.isStatics = false ∧ s.vm.findClass r.1 = some cell.cls := by
  have hw := oWs_at (ids := ids) (b := b) (h1.lt (q := h) (by omega))
  rw [oCe_obj rfl hq] at hw
  exact va_recv C.2.2.2.2.2.1.1 h1.2.1 hr hw
theorem so_inst (C : oCx p s m args c cc nL own D ids b) {i : Nat} {nm : String} (hl : Cond.classLink own i nm ∈ oG) (yes no : List Nat) (hy : ∀ q ∈ yes, q < 13 ∧ ∃ r, vwCl[q]? = some r ∧ (r.1 = nm ∨ Cond.castable r.1 nm ∈ oYes)) (hn : ∀ q ∈ no, q < 13 ∧ ∃ r, vwCl[q]? = some r ∧ (r.1, nm) ∈ oNcs) (hd : decode cc pc = .ok (.instanceof i, 3)) : oSn (oW p l e R s m args below meth c nL D ids b Qf) Q pc (o_inst yes no (pc + 3)) := by
  intro lv st mm g kk H locs ls h1 h2 h3
  unfold o_inst at kk
  split at kk
  · rename_i h r
    rcases kk with ⟨hk, kk⟩ | ⟨hk, kk⟩
    · obtain ⟨hq, rr, hrr, hca⟩ := hy _ hk
      have k2 := kk H locs ls h1 h2 h3
      have hrc := rcv C h1 hq hrr
      rcases hca with he | hca
      · subst he
        exact va_instS C.1 C.2.1 C.2.2.2.1 (C.2.2.2.2.1 _ hl) (C.2.2.2.2.2.1.1.1 _ rr hrr).2 hrc hd k2
      · exact va_instY C.1 C.2.1 C.2.2.2.1 (C.2.2.2.2.1 _ hl) (C.2.2.2.2.2.1.2.2.1 _ hca) hrc hd k2
    · obtain ⟨hq, rr, hrr, hca⟩ := hn _ hk
      exact va_instNo C.1 C.2.1 C.2.2.2.1 (C.2.2.2.2.1 _ hl) (C.2.2.2.2.2.1.2.1 _ hca) (rcv C h1 hq hrr) hd (kk H locs ls h1 h2 h3)
  · exact kk.elim
theorem so_cast (C : oCx p s m args c cc nL own D ids b) {i : Nat} {nm : String} (hl : Cond.classLink own i nm ∈ oG) (yes : List Nat) (hy : ∀ q ∈ yes, q < 13 ∧ ∃ r, vwCl[q]? = some r ∧ r.1 = nm) (hd : decode cc pc = .ok (.checkcast i, 3)) : oSn (oW p l e R s m args below meth c nL D ids b Qf) Q pc (o_cast yes (pc + 3)) := by
  intro lv st mm g kk H locs ls h1 h2 h3
  unfold o_cast at kk
  split at kk
  · rename_i h r
    obtain ⟨hk, kk⟩ := kk
    obtain ⟨hq, rr, hrr, he⟩ := hy _ hk
    have hrc := rcv C h1 hq hrr
    subst he
    exact va_castS C.1 C.2.1 C.2.2.2.1 (C.2.2.2.2.1 _ hl) (C.2.2.2.2.2.1.1.1 _ rr hrr).2 hrc hd (kk H locs ls h1 h2 h3)
  · exact kk.elim
theorem so_obj (C : oCx p s m args c cc nL own D ids b) {i : Nat} (hl : Cond.methodLink own i Lib.objectInit ∈ oG) (hi : Cond.instanceMethod Lib.objectInit ∈ oG) (hc : Cond.code Lib.objectInit ⟨#[0xb1]⟩ 1 none ∈ oG) (hf : 1 ≤ R.frames) (hlo : 20 ≤ R.locals) (hd : decode cc pc = .ok (.invokespecial i, 3)) : oSn (oW p l e R s m args below meth c nL D ids b Qf) Q pc (o_obj (pc + 3)) := by
  intro lv st mm g kk H locs ls h1 h2 h3
  unfold o_obj at kk
  split at kk
  · rename_i h r
    refine W.objInit C.1 C.2.1 C.2.2.2.1 (C.2.2.2.2.1 _ hl) (C.2.2.2.2.1 _ hi) (C.2.2.2.2.1 _ hc) rfl (by rw [C.2.2.1]; exact h3.1) rfl hd hf ?_ (kk.2 H locs ls h1 h2 h3)
    show 2 * 0 + ((r.map (oV b)).map fun v => v.category).sum + 12 ≤ R.locals
    rw [oCat_eq]
    have := kk.1
    omega
  · exact kk.elim
theorem so_max (C : oCx p s m args c cc nL own D ids b) {i : Nat} (Mc Ms : Nat) (hM : Mc ≤ R.cells ∧ Ms ≤ R.slots) (hl : Cond.methodLink own i Lib.Math.max.name ∈ oG) (hs : Cond.static Lib.Math.max.name ∈ oG) (hi : Cond.initialized "java/lang/Math" ∈ oG) (hc : Cond.code Lib.Math.max.name Lib.Math.max.code 2 (some .int) ∈ oG) (hf : 1 ≤ R.frames) (hlo : 21 ≤ R.locals) (hd : decode cc pc = .ok (.invokestatic i, 3)) : oSn (oW p l e R s m args below meth c nL D ids b Qf) Q pc (o_math2 fMax Mc Ms (pc + 3)) := by
  intro lv st mm g kk H locs ls h1 h2 h3
  unfold o_math2 at kk
  split at kk
  · rename_i y x r
    obtain ⟨⟨hx, hy, hr, g1, g2⟩, kk⟩ := kk
    refine va_mmax C.1 C.2.1 (C.2.2.1.trans h3.1.symm) C.2.2.2.1 (C.2.2.2.2.1 _ hl) (C.2.2.2.2.1 _ hs) (C.2.2.2.2.1 _ hi) (C.2.2.2.2.1 _ hc) hf (by rw [oCat_eq]; omega) (by omega) (by omega) hd ?_
    have k2 := kk H locs ls h1 h2 h3
    have hz := on_lt hx hy
    by_cases q : x < y
    · rw [if_pos (hz.mpr q)]; simp only [fMax, if_pos q] at k2; exact k2
    · rw [if_neg (fun w => q (hz.mp w))]; simp only [fMax, if_neg q] at k2; exact k2
  · exact kk.elim
theorem so_min (C : oCx p s m args c cc nL own D ids b) {i : Nat} (Mc Ms : Nat) (hM : Mc ≤ R.cells ∧ Ms ≤ R.slots) (hl : Cond.methodLink own i Lib.Math.min.name ∈ oG) (hs : Cond.static Lib.Math.min.name ∈ oG) (hi : Cond.initialized "java/lang/Math" ∈ oG) (hc : Cond.code Lib.Math.min.name Lib.Math.min.code 2 (some .int) ∈ oG) (hf : 1 ≤ R.frames) (hlo : 21 ≤ R.locals) (hd : decode cc pc = .ok (.invokestatic i, 3)) : oSn (oW p l e R s m args below meth c nL D ids b Qf) Q pc (o_math2 fMin Mc Ms (pc + 3)) := by
  intro lv st mm g kk H locs ls h1 h2 h3
  unfold o_math2 at kk
  split at kk
  · rename_i y x r
    obtain ⟨⟨hx, hy, hr, g1, g2⟩, kk⟩ := kk
    refine va_mmin C.1 C.2.1 (C.2.2.1.trans h3.1.symm) C.2.2.2.1 (C.2.2.2.2.1 _ hl) (C.2.2.2.2.1 _ hs) (C.2.2.2.2.1 _ hi) (C.2.2.2.2.1 _ hc) hf (by rw [oCat_eq]; omega) (by omega) (by omega) hd ?_
    have k2 := kk H locs ls h1 h2 h3
    have hz := on_lt hy hx
    by_cases q : y < x
    · rw [if_pos (hz.mpr q)]; simp only [fMin, if_pos q] at k2; exact k2
    · rw [if_neg (fun w => q (hz.mp w))]; simp only [fMin, if_neg q] at k2; exact k2
  · exact kk.elim
theorem so_abs (C : oCx p s m args c cc nL own D ids b) {i : Nat} (Mc Ms : Nat) (hM : Mc ≤ R.cells ∧ Ms ≤ R.slots) (hl : Cond.methodLink own i Lib.Math.abs.name ∈ oG) (hs : Cond.static Lib.Math.abs.name ∈ oG) (hi : Cond.initialized "java/lang/Math" ∈ oG) (hc : Cond.code Lib.Math.abs.name Lib.Math.abs.code 1 (some .int) ∈ oG) (hf : 1 ≤ R.frames) (hlo : 21 ≤ R.locals) (hd : decode cc pc = .ok (.invokestatic i, 3)) : oSn (oW p l e R s m args below meth c nL D ids b Qf) Q pc (o_math1 fAbs Mc Ms (pc + 3)) := by
  intro lv st mm g kk H locs ls h1 h2 h3
  unfold o_math1 at kk
  split at kk
  · rename_i x r
    obtain ⟨⟨hx, hx2, hr, g1, g2⟩, kk⟩ := kk
    refine va_mabs C.1 C.2.1 (C.2.2.1.trans h3.1.symm) C.2.2.2.1 (C.2.2.2.2.1 _ hl) (C.2.2.2.2.1 _ hs) (C.2.2.2.2.1 _ hi) (C.2.2.2.2.1 _ hc) hf (by rw [oCat_eq]; omega) (by omega) (by omega) hd ?_
    have k2 := kk H locs ls h1 h2 h3
    have hz : (0 : Int32) ≤ Int32.ofInt x ↔ 0 ≤ x := on_le on_r0 hx
    by_cases q : 0 ≤ x
    · rw [if_pos (hz.mpr q)]; simp only [fAbs, if_pos q] at k2; exact k2
    · rw [if_neg (fun w => q (hz.mp w))]; simp only [fAbs, if_neg q] at k2
      simp only [List.map_cons, oV, on_sub] at k2
      exact k2
  · exact kk.elim
end SND
