section SND
variable {p : Program} {l : Launch} {e : Env} {R : Room} {s : State} {m : MethodId} {args : Array Value} {below : List Frame} {meth : Method} {c : Code} {cc : ByteArray} {nL : Nat} {own : String} {D : va_G} {ids : Nat → ClassId} {b : Nat} {Qf : State → Prop} {Q : oQ} {pc : Nat}
/-- a switch by a table: lo to hi, a target each, else the last -/
def swT (lo : Int) (ts : List Nat) (df : Nat) (x : Int) : Nat := if x < lo then df else ts.getD (x - lo).toNat df
theorem so_table (C : oCx p s m args c cc nL own D ids b) {dflt lo hi : Int} {offs : Array Int} {len : Nat} (ts : List Nat) (df : Nat) (hl : hi = lo + ts.length - 1) (hz : offs.size = ts.length) (ho : ∀ i, i < ts.length → (offs[i]?).map (fun o => (pc : Int) + o) = some (ts.getD i df : Int)) (hdf : (pc : Int) + dflt = df) (hd : decode cc pc = .ok (.tableswitch dflt lo hi offs, len)) : oSn (oW p l e R s m args below meth c nL D ids b Qf) Q pc (o_sw (swT lo ts df)) := by
  intro lv st mm g k H locs ls h1 h2 h3
  unfold o_sw at k
  split at k
  · rename_i x r
    obtain ⟨hx, k⟩ := k
    have k2 := k H locs ls h1 h2 h3
    by_cases ha : x < lo
    · rw [show swT lo ts df x = df by simp [swT, ha]] at k2
      exact lv_tableOut C.1 C.2.1 hd (Or.inl (by rw [on_t hx]; exact ha)) hdf k2
    · by_cases hb : hi < x
      · rw [show swT lo ts df x = df by
          simp only [swT, ha, if_false]
          rw [List.getD_eq_getElem?_getD, List.getElem?_eq_none (by omega)]
          rfl] at k2
        exact lv_tableOut C.1 C.2.1 hd (Or.inr (by rw [on_t hx]; exact hb)) hdf k2
      · have hlt : (x - lo).toNat < ts.length := by omega
        have h4 := ho _ hlt
        simp only [swT, ha, if_false] at k2
        cases h5 : offs[(x - lo).toNat]? with
        | none => rw [h5] at h4; cases h4
        | some o =>
          rw [h5] at h4
          exact lv_tableIn C.1 C.2.1 hd (by rw [on_t hx]; exact ha) (by rw [on_t hx]; exact hb) (off := o) (by rw [on_t hx]; exact h5) (Option.some.inj h4) k2
  · exact k.elim
/-- a field of a kind of object, as the tables have it -/
def oFd (s : State) (args : Array Value) (own : String) (index c k : Nat) : Prop :=
  ∃ (C : String) (T : u_T) (N : Nat) (ref : String), vwCl[c]? = some (C, T, N) ∧ k < N ∧ N = nF c ∧ c < 13 ∧ (∀ w ∈ u_ws C T N, w ∈ oG) ∧ (∀ j, j < N → parseFieldDescriptor (T j).2.2.1 = some (oTy c j)) ∧ (∀ a, a < N → ∀ b, b < N → a ≠ b → (T a).2.1 ≠ (T b).2.1) ∧ (Cond.fieldLink own index ref (T k).2.1 (T k).2.2.1).before args s = true ∧ (∀ x, s.fieldFound? (T k).1 (T k).2.1 (T k).2.2.1 = some x → s.fieldFound? ref (T k).2.1 (T k).2.2.1 = some x)
theorem so_getV (C : oCx p s m args c cc nL own D ids b) {i : Nat} (cs : List Nat) (k : Nat) (hf : ∀ q ∈ cs, oFd s args own i q k) (hd : decode cc pc = .ok (.getfield i, 3)) {lv : oLV} {st : List Value} {mm : oM} {g : Nat × Nat} {h : Nat} (hk : sK mm.1 h ∈ cs) {H : Heap} {locs : List Loc} {ls : Array Slot} (h1 : oOK D ids b mm H) (kk : W p l e R s m args below meth c H locs g.1 g.2 Qf (F0 m (pc + 3) ls (oFv b mm (sK mm.1 h) h k :: st))) : W p l e R s m args below meth c H locs g.1 g.2 Qf (F0 m pc ls (.ref (b + h) :: st)) := by
  obtain ⟨X, T, N, ref, e1, e2, e3, e4, e5, e6, e7, e8, e9⟩ := hf _ hk
  have hw := oWs_at (ids := ids) (b := b) (h1.lt (q := h) (by omega))
  rw [oCe_obj rfl e4] at hw
  exact va_get C.1 C.2.1 C.2.2.2.2.1 e5 C.2.2.2.1 C.2.2.2.2.2.1.1 h1.2.1 h hw e1 k e2 e8 e9 (oFs_get (by omega)) hd kk
theorem so_getI (C : oCx p s m args c cc nL own D ids b) {i : Nat} (cs : List Nat) (k : Nat) (hf : ∀ q ∈ cs, oFd s args own i q k) (ht : ∀ q ∈ cs, oTy q k = .int ∨ oTy q k = .boolean) (hd : decode cc pc = .ok (.getfield i, 3)) : oSn (oW p l e R s m args below meth c nL D ids b Qf) Q pc (o_getI cs k (pc + 3)) := by
  intro lv st mm g kk H locs ls h1 h2 h3
  unfold o_getI at kk
  split at kk
  · rename_i h r
    refine so_getV C cs k hf hd (lv := lv) kk.1 h1 ?_
    have k2 := kk.2 H locs ls h1 h2 h3
    rcases ht _ kk.1 with z | z <;> (rw [oFv, z]; exact k2)
  · exact kk.elim
theorem so_getL (C : oCx p s m args c cc nL own D ids b) {i : Nat} (cs : List Nat) (k : Nat) (hf : ∀ q ∈ cs, oFd s args own i q k) (ht : ∀ q ∈ cs, oTy q k = .long) (hd : decode cc pc = .ok (.getfield i, 3)) : oSn (oW p l e R s m args below meth c nL D ids b Qf) Q pc (o_getL cs k (pc + 3)) := by
  intro lv st mm g kk H locs ls h1 h2 h3
  unfold o_getL at kk
  split at kk
  · rename_i h r
    refine so_getV C cs k hf hd (lv := lv) kk.1 h1 ?_
    have k2 := kk.2 H locs ls h1 h2 h3
    rw [oFv, ht _ kk.1]
    exact k2
  · exact kk.elim
theorem so_getR (C : oCx p s m args c cc nL own D ids b) {i : Nat} (cs : List Nat) (k : Nat) (hf : ∀ q ∈ cs, oFd s args own i q k) (ht : ∀ q ∈ cs, (∃ n, oTy q k = .object n) ∨ ∃ n, oTy q k = .array n) (hd : decode cc pc = .ok (.getfield i, 3)) : oSn (oW p l e R s m args below meth c nL D ids b Qf) Q pc (o_getR cs k (pc + 3)) := by
  intro lv st mm g kk H locs ls h1 h2 h3
  unfold o_getR at kk
  split at kk
  · rename_i h r
    obtain ⟨hk, q, hq, kk⟩ := kk
    refine so_getV C cs k hf hd (lv := lv) hk h1 ?_
    have k2 := kk H locs ls h1 h2 h3
    rcases ht _ hk with ⟨n, z⟩ | ⟨n, z⟩ <;> (rw [oFv, z, hq]; exact k2)
  · exact kk.elim
/-- a field is written: the world behind it -/
theorem so_putV (C : oCx p s m args c cc nL own D ids b) {i : Nat} (cs : List Nat) (k : Nat) (hf : ∀ q ∈ cs, oFd s args own i q k) (hfin : ∀ q ∈ cs, ∀ r, vwCl[q]? = some r → (r.2.1 k).2.2.2 = false) (hd : decode cc pc = .ok (.putfield i, 3)) {st : List Value} {mm mm' : oM} {g : Nat × Nat} {h : Nat} {v : Value} (hk : sK mm.1 h ∈ cs) (hs : sN mm'.1 = sN mm.1 ∧ sK mm'.1 = sK mm.1 ∧ sL mm'.1 = sL mm.1) (hn : narrow (oTy (sK mm.1 h) k) v = v) (hfit : fits (oTy (sK mm.1 h) k) v = true) (hv : oFv b mm' (sK mm.1 h) h k = v) (ho : ∀ j, j ≠ k → oFv b mm' (sK mm.1 h) h j = oFv b mm (sK mm.1 h) h j) (hoo : ∀ q, q ≠ h → oCe ids b mm' q = oCe ids b mm q) {H : Heap} {locs : List Loc} {ls : Array Slot} (h1 : oOK D ids b mm H) (h2 : va_S (fun q => b ≤ q) s.heap H locs) (kk : ∀ (H1 : Heap) (locs1 : List Loc), oOK D ids b mm' H1 → va_S (fun q => b ≤ q) s.heap H1 locs1 → W p l e R s m args below meth c H1 locs1 g.1 g.2 Qf (F0 m (pc + 3) ls st)) : W p l e R s m args below meth c H locs g.1 g.2 Qf (F0 m pc ls (v :: .ref (b + h) :: st)) := by
  obtain ⟨X, T, N, ref, e1, e2, e3, e4, e5, e6, e7, e8, e9⟩ := hf _ hk
  have hlt := h1.lt (q := h) (by omega)
  have hw := oWs_at (ids := ids) (b := b) hlt
  rw [oCe_obj rfl e4] at hw
  have hsz : ∀ (H1 : Heap), va_P D vwCl ((oWs ids b mm).set h (b + h, .inr (sK mm.1 h, (oFs b mm (sK mm.1 h) h).set k v))) H1 → H1.size = H.size → oOK D ids b mm' H1 := by
    intro H1 hP hz
    refine ⟨by rw [hz, h1.1, hs.1], ?_, by rw [hs.1, hs.2.1]; exact h1.2.2.1, by rw [hs.2.2]; exact h1.2.2.2⟩
    rw [oWs_set _ hs.1 (by rw [oCe_obj (by rw [hs.2.1]) e4, oFs_set hv ho]) hoo] at hP
    exact hP
  have hap := va_apart (own := own) C.2.2.2.2.1 e5 (oTy (sK mm.1 h)) e6 e7 C.2.2.2.2.2.1.1 e1
  obtain ⟨r, q0, cell, q1, q2, q3, q4⟩ := h1.2.1 h _ hw
  have hr : r = (X, T, N) := Option.some.inj (q0.symm.trans e1)
  subst hr
  obtain ⟨hS, hfc, kC, hkC, hkind⟩ := C.2.2.2.2.2.1.1.1 _ _ e1
  obtain ⟨cf, kf, fi, f, hi, hsl⟩ := hS k e2
  have hlay := C.2.2.2.2.1 _ (e5 _ (u_in_lay e2))
  unfold u_lay at hlay
  rw [if_neg (by rw [hfin _ hk _ e1]; decide)] at hlay
  have hst := (u_facts hfc hkC (u_lays C.2.2.2.2.1 e5 e2) hi).1
  have h6 := u_store hfc hkC hkind hlay hi (e6 k e2) hn hfit
  refine W.putK C.1 C.2.1 (f := f) ⟨C.2.2.2.1, e8, ⟨_, _, _, e9 _ hi⟩, hst⟩ (by rw [q2]; exact h6) q1 q3 (by rw [hsl]; exact k2_hasslot (q4 k e2)) rfl rfl hd fun H' y1 y2 y3 => ?_
  rw [hsl] at y1 ⊢
  have hD := oWs_D ids b mm
  refine kk H' _ (hsz H' (h1.2.1.set hD hw ⟨_, e1, t_OB.to (V := updV (vp_V (oFs b mm (sK mm.1 h) h)) k v) ⟨_, y1, q2, q3, t_set q4 hap e2 v⟩ (fun j _ => vp_updV_set (by rw [oFs_len]; omega) v j)⟩ y3) y2) (h2.put y2 y3 (Nat.le_add_right b h))
end SND
