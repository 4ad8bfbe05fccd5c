theorem oCat_eq (b : Nat) : ∀ st : List oA, ((st.map (oV b)).map fun v => v.category).sum = oCat st
  | [] => rfl
  | .inl x :: l => by simp only [List.map_cons, List.sum_cons, oCat, oCat_eq b l]; rfl
  | .inr (.inl x) :: l => by simp only [List.map_cons, List.sum_cons, oCat, oCat_eq b l]; rfl
  | .inr (.inr (.inl none)) :: l => by simp only [List.map_cons, List.sum_cons, oCat, oCat_eq b l]; rfl
  | .inr (.inr (.inl (some a))) :: l => by simp only [List.map_cons, List.sum_cons, oCat, oCat_eq b l]; rfl
  | .inr (.inr (.inr a)) :: l => by simp only [List.map_cons, List.sum_cons, oCat, oCat_eq b l]; rfl
theorem nar_b {v : Int} (h : -128 ≤ v ∧ v ≤ 127) : vp_nar .byte (Int32.ofInt v) = Int32.ofInt v := by
  rw [vp_nar_byte]
  apply Int32.toInt_inj.mp
  rw [on_t ⟨by omega, by omega⟩]
  rw [Int8.toInt_toInt32, Int32.toInt_toInt8, on_t ⟨by omega, by omega⟩]
  rw [Int.bmod_eq_of_le (by omega) (by omega)]
theorem nar_z2 {v : Int} (h : v = 0 ∨ v = 1) : vp_nar .boolean (Int32.ofInt v) = Int32.ofInt v := by
  rcases h with rfl | rfl <;> decide
section SND
variable {p : Program} {l : Launch} {e : Env} {R : Room} {s : State} {m : MethodId} {args : Array Value} {below : List Frame} {meth : Method} {c : Code} {cc : ByteArray} {nL : Nat} {own : String} {D : va_G} {ids : Nat → ClassId} {b : Nat} {Qf : State → Prop} {Q : oQ} {pc : Nat}
theorem so_iald (C : oCx p s m args c cc nL own D ids b) (hd : decode cc pc = .ok (.iaload, 1)) : oSn (oW p l e R s m args below meth c nL D ids b Qf) Q pc (o_xald 13 (pc + 1)) := by
  intro lv st mm g kk H locs ls h1 h2 h3
  unfold o_xald at kk
  split at kk
  · rename_i i h r
    obtain ⟨⟨hk, i0, i1⟩, kk⟩ := kk
    have hw := oWs_at (ids := ids) (b := b) (h1.lt (q := h) (by omega))
    rw [oCe_num hk (by omega) (by omega)] at hw
    have hz := h1.2.2.2 h
    refine va_iald C.1 C.2.1 C.2.2.2.2.2.1.1 h1.2.1 h 0 hw rfl (on_in i0 i1 hz) hd ?_
    have k2 := kk H locs ls h1 h2 h3
    rw [on_cl i0 (by omega)]
    exact k2
  · exact kk.elim
theorem so_bald (C : oCx p s m args c cc nL own D ids b) (hd : decode cc pc = .ok (.baload, 1)) : oSn (oW p l e R s m args below meth c nL D ids b Qf) Q pc (o_xald 14 (pc + 1)) := by
  intro lv st mm g kk H locs ls h1 h2 h3
  unfold o_xald at kk
  split at kk
  · rename_i i h r
    obtain ⟨⟨hk, i0, i1⟩, kk⟩ := kk
    have hw := oWs_at (ids := ids) (b := b) (h1.lt (q := h) (by omega))
    rw [oCe_num hk (by omega) (by omega)] at hw
    have hz := h1.2.2.2 h
    refine va_bald C.1 C.2.1 C.2.2.2.2.2.1.1 h1.2.1 h 1 hw rfl (on_in i0 i1 hz) hd ?_
    have k2 := kk H locs ls h1 h2 h3
    rw [on_cl i0 (by omega)]
    exact k2
  · exact kk.elim
theorem so_zald (C : oCx p s m args c cc nL own D ids b) (hd : decode cc pc = .ok (.baload, 1)) : oSn (oW p l e R s m args below meth c nL D ids b Qf) Q pc (o_xald 15 (pc + 1)) := by
  intro lv st mm g kk H locs ls h1 h2 h3
  unfold o_xald at kk
  split at kk
  · rename_i i h r
    obtain ⟨⟨hk, i0, i1⟩, kk⟩ := kk
    have hw := oWs_at (ids := ids) (b := b) (h1.lt (q := h) (by omega))
    rw [oCe_num hk (by omega) (by omega)] at hw
    have hz := h1.2.2.2 h
    refine va_zald C.1 C.2.1 C.2.2.2.2.2.1.1 h1.2.1 h 2 hw rfl (on_in i0 i1 hz) hd ?_
    have k2 := kk H locs ls h1 h2 h3
    rw [on_cl i0 (by omega)]
    exact k2
  · exact kk.elim
/-- the world behind a number stored in an array -/
theorem w_ast {mm : oM} {h k i : Nat} {v : Int} (hk : sK mm.1 h = k) (hk1 : 13 ≤ k) (hk2 : k < 16) {H H1 : Heap} (h1 : oOK D ids b mm H) (hz : H1.size = H.size) (hP : va_P D vwCl ((oWs ids b mm).set h (b + h, .inl (ids k, sL mm.1 h, .inl (upd (fun i => Int32.ofInt (mm.2.1 h i)) i (Int32.ofInt v))))) H1) : oOK D ids b (mm.1, u2 mm.2.1 h i v, mm.2.2) H1 := by
  refine ⟨by rw [hz]; exact h1.1, ?_, h1.2.2.1, h1.2.2.2⟩
  rw [oWs_set (mm := mm) (mm' := (mm.1, u2 mm.2.1 h i v, mm.2.2)) _ rfl ?_ (fun q hq => w_I hq)] at hP
  · exact hP
  · rw [oCe_num (mm := (mm.1, u2 mm.2.1 h i v, mm.2.2)) (c := k) hk hk1 hk2]
    congr 4
    funext j
    by_cases hj : j = i
    · subst hj; simp [u2, upd]
    · simp [u2, upd, hj]
theorem so_iast (C : oCx p s m args c cc nL own D ids b) (hd : decode cc pc = .ok (.iastore, 1)) : oSn (oW p l e R s m args below meth c nL D ids b Qf) Q pc (o_iast (pc + 1)) := by
  intro lv st mm g kk H locs ls h1 h2 h3
  unfold o_iast at kk
  split at kk
  · rename_i v i h r
    obtain ⟨⟨hk, i0, i1⟩, kk⟩ := kk
    have hw := oWs_at (ids := ids) (b := b) (h1.lt (q := h) (by omega))
    rw [oCe_num hk (by omega) (by omega)] at hw
    have hz := h1.2.2.2 h
    have hK := C.2.2.2.2.2.1.1
    have hin := on_in i0 i1 hz
    refine W.iast C.1 C.2.1 (h1.2.1 h _ hw) ((hK.2 0 _ rfl).1 _ (fun j => .int (Int32.ofInt (mm.2.1 h j)))) (fun q => by cases q) (by show ¬ (Int32.ofInt i < 0 ∨ (arrV _ _ _).slots.size ≤ _); rw [arrV_size]; exact hin) rfl rfl hd fun H1 y1 y2 y3 => ?_
    refine kk H1 _ ls (w_ast hk (by omega) (by omega) h1 y2 (h1.2.1.set (oWs_D ids b mm) hw ?_ y3)) (h2.put y2 y3 (Nat.le_add_right b h)) h3
    show H1[b + h]? = some (vp_cell _ _)
    rw [y1, on_cl i0 (by omega)]
    rw [vp_cell_i, vp_cell_i, arrV_store]
    congr 2
    funext q
    by_cases hq : q = i.toNat
    · subst hq; simp [updV, upd]
    · simp [updV, upd, hq]
  · exact kk.elim
theorem so_bast (C : oCx p s m args c cc nL own D ids b) (hd : decode cc pc = .ok (.bastore, 1)) : oSn (oW p l e R s m args below meth c nL D ids b Qf) Q pc (o_bast (pc + 1)) := by
  intro lv st mm g kk H locs ls h1 h2 h3
  unfold o_bast at kk
  split at kk
  · rename_i v i h r
    obtain ⟨⟨hk, i0, i1, hv⟩, kk⟩ := kk
    have hw := oWs_at (ids := ids) (b := b) (h1.lt (q := h) (by omega))
    rw [oCe_num hk (by omega) (by omega)] at hw
    have hz := h1.2.2.2 h
    have hK := C.2.2.2.2.2.1.1
    have hin := on_in i0 i1 hz
    refine W.bast C.1 C.2.1 (h1.2.1 h _ hw) ((hK.2 1 _ rfl).1 _ (fun j => .int (Int32.ofInt (mm.2.1 h j)))) (fun q => by cases q) (by show ¬ (Int32.ofInt i < 0 ∨ (arrV _ _ _).slots.size ≤ _); rw [arrV_size]; exact hin) rfl rfl hd fun H1 y1 y2 y3 => ?_
    refine kk H1 _ ls (w_ast hk (by omega) (by omega) h1 y2 (h1.2.1.set (oWs_D ids b mm) hw ?_ y3)) (h2.put y2 y3 (Nat.le_add_right b h)) h3
    show H1[b + h]? = some (vp_cell _ _)
    rw [y1, on_cl i0 (by omega)]
    rw [vp_cell_i, vp_cell_i, arrV_store]
    congr 2
    funext q
    have hn := nar_b hv
    by_cases hq : q = i.toNat
    · subst hq
      simp only [updV, upd, if_true]
      exact (show narrow .byte (.int (Int32.ofInt v)) = .int ((Int32.ofInt v).toInt8.toInt32) from rfl).trans (by rw [← vp_nar_byte, hn])
    · simp [updV, upd, hq]
  · exact kk.elim
theorem so_zast (C : oCx p s m args c cc nL own D ids b) (hd : decode cc pc = .ok (.bastore, 1)) : oSn (oW p l e R s m args below meth c nL D ids b Qf) Q pc (o_zast (pc + 1)) := by
  intro lv st mm g kk H locs ls h1 h2 h3
  unfold o_zast at kk
  split at kk
  · rename_i v i h r
    obtain ⟨⟨hk, i0, i1, hv⟩, kk⟩ := kk
    have hw := oWs_at (ids := ids) (b := b) (h1.lt (q := h) (by omega))
    rw [oCe_num hk (by omega) (by omega)] at hw
    have hz := h1.2.2.2 h
    have hK := C.2.2.2.2.2.1.1
    have hin := on_in i0 i1 hz
    refine W.zast C.1 C.2.1 (h1.2.1 h _ hw) ((hK.2 2 _ rfl).1 _ (fun j => .int (Int32.ofInt (mm.2.1 h j)))) (fun q => by cases q) (by show ¬ (Int32.ofInt i < 0 ∨ (arrV _ _ _).slots.size ≤ _); rw [arrV_size]; exact hin) rfl rfl hd fun H1 y1 y2 y3 => ?_
    refine kk H1 _ ls (w_ast hk (by omega) (by omega) h1 y2 (h1.2.1.set (oWs_D ids b mm) hw ?_ y3)) (h2.put y2 y3 (Nat.le_add_right b h)) h3
    show H1[b + h]? = some (vp_cell _ _)
    rw [y1, on_cl i0 (by omega)]
    rw [vp_cell_i, vp_cell_i, arrV_store]
    congr 2
    funext q
    have hn := nar_z2 hv
    by_cases hq : q = i.toNat
    · subst hq
      simp only [updV, upd, if_true]
      exact (nar_z hv).1
    · simp [updV, upd, hq]
  · exact kk.elim
end SND
