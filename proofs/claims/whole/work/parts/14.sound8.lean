/-! contracts: a method's table is what it does -/
def oQc (D : va_G) (ids : Nat → ClassId) (b : Nat) (Q : oQ) : Array Value → State → Outcome → State → Prop := fun _ st oc t =>
  (∃ (r : Option oA) (mm' : oM), oc = .returned (r.map (oV b)) ∧ Q r mm' ∧ oOK D ids b mm' t.heap) ∧ va_F (fun q => b ≤ q) st t
def oPc (D : va_G) (ids : Nat → ClassId) (b : Nat) (av : List oA) (mm : oM) : Array Value → State → Prop := va_Pc (av.map (oV b)) (fun U => oOK D ids b mm U.heap ∧ oKn D ids U ∧ b ≤ U.heap.size)
def oWd (y : MethodName) (cc : ByteArray) (maxL : Nat) (ret : Option FieldType) : List Cond := .code y cc maxL ret :: oG
def oRm (fr lo mc ms : Nat) : Room := { frames := fr, cells := mc, slots := ms, locals := lo }
def oMT (l : Launch) (D : va_G) (ids : Nat → ClassId) (y : MethodName) (cc : ByteArray) (maxL : Nat) (ret : Option FieldType) (fr lo mc ms : Nat) (T : List oA → oM → oQ → Prop) : Prop :=
  ∀ (b : Nat) (av : List oA) (mm : oM) (Q : oQ), T av mm Q → Met l y (oWd y cc maxL ret) (oRm fr lo mc ms) (oPc D ids b av mm) (oQc D ids b Q) mc ms (fun q => b ≤ q)
theorem oKn.moved {D : va_G} {ids : Nat → ClassId} {u U : State} (hW : u.WarmedH U.vm) (h : oKn D ids u) : oKn D ids U := by
  obtain ⟨h1, h2, h3, h4, h5, h6⟩ := h
  refine ⟨va_K.moved hW.alike h1, fun q hq => (h2 q hq).moved hW.alike, fun w hw => ?_, fun q hq => va_Nw.warmM hW (h4 q hq), va_AO.moved hW.alike h5, va_AO.moved hW.alike h6⟩
  have h7 := h3 w hw
  simp only [oYes, List.mem_cons, List.not_mem_nil, or_false] at hw
  rcases hw with rfl | rfl | rfl | rfl | rfl <;> exact va_Nw.warmC hW h7
theorem oKn.same {D : va_G} {ids : Nat → ClassId} {u U : State} (h0 : u.vm = U.vm) (h : oKn D ids u) : oKn D ids U := oKn.moved (by rw [← h0]; exact State.WarmedH.refl u) h
theorem oPc_blind {D : va_G} {ids : Nat → ClassId} {b : Nat} {av : List oA} {mm : oM} : FrameBlind (oPc D ids b av mm) := by
  intro a U g mk h
  obtain ⟨h1, h2, h3, h4⟩ := h
  exact ⟨h1, h2, oKn.same (u := U) rfl h3, h4⟩
section SND
variable {p : Program} {l : Launch} {e : Env} {R : Room} {s : State} {m : MethodId} {args : Array Value} {below : List Frame} {meth : Method} {c : Code} {cc : ByteArray} {nL : Nat} {own : String} {D : va_G} {ids : Nat → ClassId} {b : Nat} {Qf : State → Prop} {Q : oQ} {pc : Nat}
theorem oWd_good {y : MethodName} {bytes : ByteArray} {maxL : Nat} {ret : Option FieldType} (hc : Cond.code y bytes maxL ret ∈ oG) : GoodIn oG (oWd y bytes maxL ret) := by
  intro w hw
  rcases List.mem_cons.mp hw with rfl | hw
  · exact ⟨hc, good_of_word (List.mem_filter.mp hc).2⟩
  · exact ⟨hw, good_of_word (List.mem_filter.mp hw).2⟩
/-- behind a call -/
theorem so_back {mc ms : Nat} {ls : Array Slot} {st0 rest : List Value} {a : Array Value} {H : Heap} {locs : List Loc} {cells slots : Nat} {Q1 : oQ} (hr : va_Run p l e R s m args below meth c H locs cells slots mc ms (F0 m pc ls st0) rest (oQc D ids b Q1 a) (fun q => b ≤ q)) (h2 : va_S (fun q => b ≤ q) s.heap H locs)
    (kk : ∀ (r : Option oA) (mm' : oM) (H1 : Heap) (locs1 : List Loc), Q1 r mm' → oOK D ids b mm' H1 → va_S (fun q => b ≤ q) s.heap H1 locs1 → W p l e R s m args below meth c H1 locs1 (cells + mc) (slots + ms) Qf (F0 m (pc + 3) ls ((r.map (oV b)).toList ++ rest))) : W p l e R s m args below meth c H locs cells slots Qf (F0 m pc ls st0) := by
  intro T hT X
  obtain ⟨v, st₀, t, T', L, h0, X', hL, e1, e2, ⟨⟨r, mm', hv, hp, hb⟩, hz, hk⟩, st⟩ := hr T hT X
  rw [h0] at hz hk
  have hv2 : v = r.map (oV b) := by cases hv; rfl
  obtain ⟨t2, a1, b1⟩ := kk r mm' T'.heap (locs ++ L) hp (by rw [e1]; exact hb) ⟨Nat.le_trans h2.1 (by rw [e1]; exact hz), fun q h1 h3 => by rw [e1, hk q (Nat.lt_of_lt_of_le h1 h2.1) h3]; exact h2.2.1 q h1 h3, fun q hq => by
      rcases List.mem_append.mp hq with h | h
      · exact h2.2.2 q h
      · exact hL q h⟩ T' rfl X'
  rw [← hv2] at a1
  exact ⟨t2, st t2 a1, b1⟩
theorem oV_cons_take {st : List oA} {k : Nat} (h : k ≤ st.length) : st.map (oV b) = ((st.take k).reverse.map (oV b)).reverse ++ (st.drop k).map (oV b) := by
  rw [← List.map_reverse, List.reverse_reverse, ← List.map_append, List.take_append_drop]
theorem oPc_pre (C : oCx p s m args c cc nL own D ids b) {av : List oA} {mm : oM} {H : Heap} {locs : List Loc} (h1 : oOK D ids b mm H) (h2 : va_S (fun q => b ≤ q) s.heap H locs) : ∀ U : State, U.heap = H → s.WarmedH U.vm → oPc D ids b av mm (av.map (oV b)).toArray U := by
  intro U hU hW
  refine ⟨rfl, by rw [hU]; exact h1, oKn.moved hW C.2.2.2.2.2.1, ?_⟩
  rw [hU]
  exact Nat.le_trans C.2.2.2.2.2.2 h2.1
theorem so_callS (C : oCx p s m args c cc nL own D ids b) {i : Nat} {y : MethodName} {bytes : ByteArray} {maxL : Nat} {ret : Option FieldType} {fr lo mc ms : Nat} {T : List oA → oM → oQ → Prop} (k Mc Ms : Nat) (hM : Mc ≤ R.cells ∧ Ms ≤ R.slots) (hT : oMT l D ids y bytes maxL ret fr lo mc ms T) (hc : Cond.code y bytes maxL ret ∈ oG) (hl : Cond.methodLink own i y ∈ oG) (hst : Cond.static y ∈ oG) (hini : Cond.initialized y.cls ∈ oG) (hy : y.cls ≠ "java/lang/invoke/MethodHandle" ∧ y.cls ≠ "java/lang/invoke/VarHandle" ∧ (parseMethodDescriptor y.desc).map (fun d => d.parameters.length) = some k) (hR : fr + 1 ≤ R.frames ∧ 8 + (maxL + 11) + lo ≤ R.locals) (hd : decode cc pc = .ok (.invokestatic i, 3)) : oSn (oW p l e R s m args below meth c nL D ids b Qf) Q pc (o_call T k mc ms Mc Ms (pc + 3)) := by
  intro lv st mm g kk H locs ls h1 h2 h3
  obtain ⟨⟨hk, hcat, g1, g2⟩, kk⟩ := kk
  have hts := C.2.2.2.2.1
  have cw : CallB R s args own i y bytes maxL ret (oWd y bytes maxL ret) (oRm fr lo mc ms) mc ms k ∧ (Cond.static y).before args s = true := ⟨callB_of k hts (oWd_good hc) rfl rfl rfl (hts _ hini) (hts _ hl) hy hR, hts _ hst⟩
  refine so_back (va_runS (As := (st.take k).reverse.map (oV b)) (rest := (st.drop k).map (oV b)) ⟨C.1, C.2.1, C.2.2.1, C.2.2.2.1, hts⟩ (hT b (st.take k).reverse mm _ kk) cw ⟨oPc_blind, oPc_pre C h1 h2⟩ rfl (by simp [hk]) h3.1 (oV_cons_take hk) (lv_room (by rw [oCat_eq]; exact hcat)) hd ⟨by omega, by omega⟩) h2 ?_
  intro r mm' H1 locs1 hq h1' h2'
  have k2 := hq H1 locs1 ls h1' h2' h3
  rw [List.map_append] at k2
  have e3 : (r.map (oV b)).toList = r.toList.map (oV b) := by cases r <;> rfl
  rw [e3]
  exact k2
end SND
