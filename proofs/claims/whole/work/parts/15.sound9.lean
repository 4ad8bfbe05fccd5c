section SND
variable {p : Program} {l : Launch} {e : Env} {R : Room} {s : State} {m : MethodId} {args : Array Value} {below : List Frame} {meth : Method} {c : Code} {cc : ByteArray} {nL : Nat} {own : String} {D : va_G} {ids : Nat → ClassId} {b : Nat} {Qf : State → Prop} {Q : oQ} {pc : Nat}
theorem oV_obj {st r : List oA} {k h : Nat} (hk : k ≤ st.length) (hst : st.drop k = .inr (.inr (.inl (some h))) :: r) : st.map (oV b) = ((st.take k).reverse.map (oV b)).reverse ++ .ref (b + h) :: r.map (oV b) := by
  rw [oV_cons_take hk, hst]
  rfl
theorem so_fin {mc ms : Nat} {lv : oLV} {r : List oA} {g : Nat × Nat} {Q1 : oQ} {ls : Array Slot} (h3 : oLs b nL lv ls) (hQ : Q1 = fun v mm' => oW p l e R s m args below meth c nL D ids b Qf (pc + 3) lv (v.toList ++ r) mm' (g.1 + mc, g.2 + ms)) : ∀ (v : Option oA) (mm' : oM) (H1 : Heap) (locs1 : List Loc), Q1 v mm' → oOK D ids b mm' H1 → va_S (fun q => b ≤ q) s.heap H1 locs1 → W p l e R s m args below meth c H1 locs1 (g.1 + mc) (g.2 + ms) Qf (F0 m (pc + 3) ls ((v.map (oV b)).toList ++ r.map (oV b))) := by
  intro v mm' H1 locs1 hq h1' h2'
  subst hQ
  have k2 := hq H1 locs1 ls h1' h2' h3
  rw [List.map_append] at k2
  have e3 : (v.map (oV b)).toList = v.toList.map (oV b) := by cases v <;> rfl
  rw [e3]
  exact k2
theorem so_callV (C : oCx p s m args c cc nL own D ids b) {i : Nat} {y : MethodName} {bytes : ByteArray} {maxL : Nat} {ret : Option FieldType} {fr lo mc ms : Nat} {T : List oA → oM → oQ → Prop} (ci k Mc Ms : Nat) (rr : vw_C) (hci : ci < 13) (hrr : vwCl[ci]? = some rr) (hyc : rr.1 = y.cls) (hM : Mc ≤ R.cells ∧ Ms ≤ R.slots) (hT : oMT l D ids y bytes maxL ret fr lo mc ms T) (hc : Cond.code y bytes maxL ret ∈ oG) (hl : Cond.methodLink own i y ∈ oG) (him : Cond.instanceMethod y ∈ oG) (hsel : Cond.selects y.cls y y ∈ oG) (hini : Cond.initialized y.cls ∈ oG) (hy : y.cls ≠ "java/lang/invoke/MethodHandle" ∧ y.cls ≠ "java/lang/invoke/VarHandle" ∧ (parseMethodDescriptor y.desc).map (fun d => d.parameters.length) = some k) (hR : fr + 1 ≤ R.frames ∧ 8 + (maxL + 11) + lo ≤ R.locals) (hd : decode cc pc = .ok (.invokevirtual i, 3)) : oSn (oW p l e R s m args below meth c nL D ids b Qf) Q pc (o_callo T ci k mc ms Mc Ms (pc + 3)) := by
  intro lv st mm g kk H locs ls h1 h2 h3
  unfold o_callo at kk
  split at kk
  · rename_i h r hst
    obtain ⟨⟨hkd, hk, hcat, g1, g2⟩, kk⟩ := kk
    have hts := C.2.2.2.2.1
    have cw : CallW R s args own y.cls i y bytes maxL ret (oWd y bytes maxL ret) (oRm fr lo mc ms) mc ms k := ⟨callB_of k hts (oWd_good hc) rfl rfl rfl (hts _ hini) (hts _ hl) hy hR, hts _ him, hts _ hsel⟩
    have hrc := rcv C h1 (h := h) (by omega) (by rw [hkd]; exact hrr)
    rw [hyc] at hrc
    exact so_back (va_runV (As := (st.take k).reverse.map (oV b)) (rest := r.map (oV b)) ⟨C.1, C.2.1, C.2.2.1, C.2.2.2.1, hts⟩ (hT b _ mm _ kk) cw ⟨oPc_blind, hrc, oPc_pre C h1 h2⟩ rfl (by simp [hk]) h3.1 (oV_obj hk hst) (lv_room (by rw [oCat_eq]; exact hcat)) hd ⟨by omega, by omega⟩) h2 (so_fin h3 rfl)
  · exact kk.elim
theorem so_callI (C : oCx p s m args c cc nL own D ids b) {i : Nat} {y : MethodName} {bytes : ByteArray} {maxL : Nat} {fr lo mc ms : Nat} {T : List oA → oM → oQ → Prop} (k Mc Ms : Nat) (hM : Mc ≤ R.cells ∧ Ms ≤ R.slots) (hT : oMT l D ids y bytes maxL none fr lo mc ms T) (hc : Cond.code y bytes maxL none ∈ oG) (hl : Cond.methodLink own i y ∈ oG) (him : Cond.instanceMethod y ∈ oG) (hini : Cond.initialized y.cls ∈ oG) (hy1 : y.name = "<init>") (hy : y.cls ≠ "java/lang/invoke/MethodHandle" ∧ y.cls ≠ "java/lang/invoke/VarHandle" ∧ (parseMethodDescriptor y.desc).map (fun d => d.parameters.length) = some k) (hR : fr + 1 ≤ R.frames ∧ 8 + (maxL + 11) + lo ≤ R.locals) (hd : decode cc pc = .ok (.invokespecial i, 3)) : oSn (oW p l e R s m args below meth c nL D ids b Qf) Q pc (o_calli T k mc ms Mc Ms (pc + 3)) := by
  intro lv st mm g kk H locs ls h1 h2 h3
  unfold o_calli at kk
  split at kk
  · rename_i h r hst
    obtain ⟨⟨hk, hcat, g1, g2⟩, kk⟩ := kk
    have hts := C.2.2.2.2.1
    have cw : CallB R s args own i y bytes maxL none (oWd y bytes maxL none) (oRm fr lo mc ms) mc ms k ∧ y.name = "<init>" ∧ (Cond.instanceMethod y).before args s = true := ⟨callB_of k hts (oWd_good hc) rfl rfl rfl (hts _ hini) (hts _ hl) hy hR, hy1, hts _ him⟩
    exact so_back (va_runI (As := (st.take k).reverse.map (oV b)) (rest := r.map (oV b)) ⟨C.1, C.2.1, C.2.2.1, C.2.2.2.1, hts⟩ (hT b _ mm _ kk) cw ⟨oPc_blind, oPc_pre C h1 h2⟩ rfl (by simp [hk]) h3.1 (oV_obj hk hst) (lv_room (by rw [oCat_eq]; exact hcat)) hd ⟨by omega, by omega⟩) h2 (so_fin h3 rfl)
  · exact kk.elim
theorem so_callIN (C : oCx p s m args c cc nL own D ids b) {i : Nat} {y : MethodName} {host : String} {bytes : ByteArray} {maxL : Nat} {fr lo mc ms : Nat} {T : List oA → oM → oQ → Prop} (k Mc Ms : Nat) (hM : Mc ≤ R.cells ∧ Ms ≤ R.slots) (hT : oMT l D ids y bytes maxL none fr lo mc ms T) (hc : Cond.code y bytes maxL none ∈ oG) (hl : (own, i, y, host) ∈ oNst) (him : Cond.instanceMethod y ∈ oG) (hini : Cond.initialized y.cls ∈ oG) (hy1 : y.name = "<init>") (hy : y.cls ≠ "java/lang/invoke/MethodHandle" ∧ y.cls ≠ "java/lang/invoke/VarHandle" ∧ (parseMethodDescriptor y.desc).map (fun d => d.parameters.length) = some k) (hR : fr + 1 ≤ R.frames ∧ 8 + (maxL + 11) + lo ≤ R.locals) (hd : decode cc pc = .ok (.invokespecial i, 3)) : oSn (oW p l e R s m args below meth c nL D ids b Qf) Q pc (o_calli T k mc ms Mc Ms (pc + 3)) := by
  intro lv st mm g kk H locs ls h1 h2 h3
  unfold o_calli at kk
  split at kk
  · rename_i h r hst
    obtain ⟨⟨hk, hcat, g1, g2⟩, kk⟩ := kk
    have hts := C.2.2.2.2.1
    have hln : va_Nw (.methodLinkNest own i y host) s := C.2.2.2.2.2.1.2.2.2.1 _ hl
    have cw : va_CN R s args own i y host bytes maxL none (oWd y bytes maxL none) (oRm fr lo mc ms) mc ms k ∧ y.name = "<init>" ∧ (Cond.instanceMethod y).before args s = true := ⟨va_cnB k hts (oWd_good hc) rfl rfl rfl hln (hts _ hini) hy hR, hy1, hts _ him⟩
    exact so_back (va_runIN (As := (st.take k).reverse.map (oV b)) (rest := r.map (oV b)) ⟨C.1, C.2.1, C.2.2.1, C.2.2.2.1, hts⟩ (hT b _ mm _ kk) cw ⟨oPc_blind, oPc_pre C h1 h2⟩ rfl (by simp [hk]) h3.1 (oV_obj hk hst) (lv_room (by rw [oCat_eq]; exact hcat)) hd ⟨by omega, by omega⟩) h2 (so_fin h3 rfl)
  · exact kk.elim
/-- what a call by the receiver's kind needs for one kind -/
def oVt (l : Launch) (R : Room) (D : va_G) (ids : Nat → ClassId) (x : MethodName) (k : Nat) (q : Nat × (List oA → oM → oQ → Prop)) : Prop :=
  ∃ (rr : vw_C) (y : MethodName) (bytes : ByteArray) (maxL : Nat) (ret : Option FieldType) (fr lo : Nat), q.1 < 13 ∧ vwCl[q.1]? = some rr ∧ oMT l D ids y bytes maxL ret fr lo 0 0 q.2 ∧ Cond.code y bytes maxL ret ∈ oG ∧ Cond.selects rr.1 x y ∈ oG ∧ Cond.instanceMethod y ∈ oG ∧ Cond.initialized y.cls ∈ oG ∧ fr + 1 ≤ R.frames ∧ 8 + (maxL + 11) + lo ≤ R.locals
theorem so_callX (C : oCx p s m args c cc nL own D ids b) {i : Nat} {x : MethodName} {b0 : ByteArray} {m0 : Nat} {r0 : Option FieldType} (Ts : List (Nat × (List oA → oM → oQ → Prop))) (k Mc Ms : Nat) (hM : Mc ≤ R.cells ∧ Ms ≤ R.slots) (hT : ∀ q ∈ Ts, oVt l R D ids x k q) (hl : Cond.methodLink own i x ∈ oG) (hsm : Cond.sameMethod x.cls x.cls x.name x.desc ∈ oG) (hix : Cond.instanceMethod x ∈ oG) (h0 : Cond.code x b0 m0 r0 ∈ oG) (hy : x.cls ≠ "java/lang/invoke/MethodHandle" ∧ x.cls ≠ "java/lang/invoke/VarHandle" ∧ (parseMethodDescriptor x.desc).map (fun d => d.parameters.length) = some k) (hd : decode cc pc = .ok (.invokevirtual i, 3)) : oSn (oW p l e R s m args below meth c nL D ids b Qf) Q pc (o_callV Ts k Mc Ms (pc + 3)) := by
  intro lv st mm g kk H locs ls h1 h2 h3
  unfold o_callV at kk
  split at kk
  · rename_i h r hst
    obtain ⟨⟨hk, hcat, g1, g2⟩, q, hq, hkd, kk⟩ := kk
    obtain ⟨rr, y, bytes, maxL, ret, fr, lo, a1, a2, a3, a4, a5, a6, a7, a8, a9⟩ := hT q hq
    have hts := C.2.2.2.2.1
    have hgood : GoodIn oG (va_wsO own i rr.1 x.cls x y (oWd y bytes maxL ret)) := by
      intro w hw
      rcases List.mem_append.mp hw with hw | hw
      · have hw2 : w ∈ oG := by
          simp only [List.mem_cons, List.not_mem_nil, or_false] at hw
          rcases hw with rfl | rfl | rfl | rfl | rfl | rfl
          · exact hl
          · exact hsm
          · exact hix
          · exact a5
          · exact a6
          · exact a7
        exact ⟨hw2, good_of_word (List.mem_filter.mp hw2).2⟩
      · exact oWd_good a4 w hw
    have cw : va_CU R s args own rr.1 x.cls i x y bytes maxL ret (oWd y bytes maxL ret) (oRm fr lo 0 0) 0 0 k := va_cwO k hts hgood rfl rfl rfl h0 hy ⟨a8, a9⟩
    have hrc := rcv C h1 (h := h) (by omega) (by rw [hkd]; exact a2)
    exact so_back (va_runU (As := (st.take k).reverse.map (oV b)) (rest := r.map (oV b)) ⟨C.1, C.2.1, C.2.2.1, C.2.2.2.1, hts⟩ (a3 b _ mm _ kk) cw ⟨oPc_blind, hrc, oPc_pre C h1 h2⟩ rfl (by simp [hk]) h3.1 (oV_obj hk hst) (lv_room (by rw [oCat_eq]; exact hcat)) hd ⟨by omega, by omega⟩) h2 (so_fin (g := g) (mc := 0) (ms := 0) h3 rfl)
  · exact kk.elim
/-! returns -/
def oMQ (D : va_G) (ids : Nat → ClassId) (b : Nat) (below : List Frame) (Q : oQ) (args : Array Value) (s : State) (mc ms : Nat) : State → Prop := MQ below (oQc D ids b Q) args s mc ms (fun q => b ≤ q)
theorem so_endq {Q : oQ} {v : Option oA} {mm : oM} {H : Heap} {locs : List Loc} (hq : Q v mm) (h1 : oOK D ids b mm H) (h2 : va_S (fun q => b ≤ q) s.heap H locs) : ∀ t : State, t.heap = H → s.WarmedH t.vm → oQc D ids b Q args s (.returned (v.map (oV b))) t :=
  fun t ht _ => ⟨⟨v, mm, rfl, hq, by rw [ht]; exact h1⟩, h2.F ht⟩
theorem so_ret0 (C : oCx p s m args c cc nL own D ids b) (mc ms : Nat) (hr : meth.sig.returnType = none) (hlocks : meth.locks = false) (hd : decode cc pc = .ok (.return_, 1)) : oSn (oW p l e R s m args below meth c nL D ids b (oMQ D ids b below Q args s mc ms)) Q pc (o_ret0 mc ms) := by
  intro lv st mm g kk H locs ls h1 h2 h3
  obtain ⟨rfl, ⟨g1, g2⟩, kk⟩ := kk
  refine W.widen g1 g2 ?_
  exact W.vret C.1 C.2.1 hr (so_endq (v := none) kk h1 h2) h2.2.2 hd hlocks
theorem so_reti (C : oCx p s m args c cc nL own D ids b) (mc ms : Nat) (hr : meth.sig.returnType = some .int) (hlocks : meth.locks = false) (hd : decode cc pc = .ok (.ireturn, 1)) : oSn (oW p l e R s m args below meth c nL D ids b (oMQ D ids b below Q args s mc ms)) Q pc (o_reti mc ms) := by
  intro lv st mm g kk H locs ls h1 h2 h3
  unfold o_reti at kk
  split at kk
  · rename_i x
    obtain ⟨⟨g1, g2⟩, kk⟩ := kk
    refine W.widen g1 g2 ?_
    exact W.iret C.1 C.2.1 hr (so_endq (v := some (.inl x)) kk h1 h2) h2.2.2 hd hlocks
  · exact kk.elim
theorem so_retz (C : oCx p s m args c cc nL own D ids b) (mc ms : Nat) (hr : meth.sig.returnType = some .boolean) (hlocks : meth.locks = false) (hd : decode cc pc = .ok (.ireturn, 1)) : oSn (oW p l e R s m args below meth c nL D ids b (oMQ D ids b below Q args s mc ms)) Q pc (o_retz mc ms) := by
  intro lv st mm g kk H locs ls h1 h2 h3
  unfold o_retz at kk
  split at kk
  · rename_i x
    obtain ⟨⟨hz, g1, g2⟩, kk⟩ := kk
    refine W.widen g1 g2 ?_
    exact W.zret C.1 C.2.1 hr (nar_z hz).1 (so_endq (v := some (.inl x)) kk h1 h2) h2.2.2 hd hlocks
  · exact kk.elim
theorem so_retl (C : oCx p s m args c cc nL own D ids b) (mc ms : Nat) (hr : meth.sig.returnType = some .long) (hlocks : meth.locks = false) (hd : decode cc pc = .ok (.lreturn, 1)) : oSn (oW p l e R s m args below meth c nL D ids b (oMQ D ids b below Q args s mc ms)) Q pc (o_retl mc ms) := by
  intro lv st mm g kk H locs ls h1 h2 h3
  unfold o_retl at kk
  split at kk
  · rename_i x
    obtain ⟨⟨g1, g2⟩, kk⟩ := kk
    refine W.widen g1 g2 ?_
    exact W.lret C.1 C.2.1 hr (so_endq (v := some (.inr (.inl x))) kk h1 h2) h2.2.2 hd hlocks
  · exact kk.elim
theorem so_reta (C : oCx p s m args c cc nL own D ids b) (mc ms : Nat) {ty : FieldType} (hr : meth.sig.returnType = some ty) (hty : (∃ n, ty = .object n) ∨ ∃ t, ty = .array t) (hlocks : meth.locks = false) (hd : decode cc pc = .ok (.areturn, 1)) : oSn (oW p l e R s m args below meth c nL D ids b (oMQ D ids b below Q args s mc ms)) Q pc (o_reta mc ms) := by
  intro lv st mm g kk H locs ls h1 h2 h3
  unfold o_reta at kk
  split at kk
  · rename_i x
    obtain ⟨⟨g1, g2⟩, kk⟩ := kk
    refine W.widen g1 g2 ?_
    have hv : oV b (.inr (.inr x)) = .null ∨ ∃ a, oV b (.inr (.inr x)) = .ref a := by
      match x with
      | .inl none => exact Or.inl rfl
      | .inl (some a) => exact Or.inr ⟨_, rfl⟩
      | .inr a => exact Or.inr ⟨_, rfl⟩
    exact W.aret C.1 C.2.1 hr hty hv (so_endq (v := some (.inr (.inr x))) kk h1 h2) h2.2.2 hd hlocks
  · exact kk.elim
end SND
/-- a table that is sound is the method's contract -/
theorem oMet (l : Launch) (D : va_G) (ids : Nat → ClassId) {y : MethodName} {cc : ByteArray} {maxL : Nat} {ret : Option FieldType} {fr lo mc ms : Nat} (tb : Nat → oOp) (hy : plainName y.cls = true)
    (hS : ∀ (p : Program) (e : Env) (s : State) (m : MethodId) (args : Array Value) (below : List Frame) (meth : Method) (c : Code) (b : Nat) (Q : oQ), oCx p s m args c cc maxL y.cls D ids b → meth.sig.returnType = ret → meth.locks = false → meth.name = y.name → ∀ pc, oSn (oW p l e (oRm fr lo mc ms) s m args below meth c maxL D ids b (oMQ D ids b below Q args s mc ms)) Q pc (tb pc)) : oMT l D ids y cc maxL ret fr lo mc ms (oT tb maxL) := by
  intro b av mm Q hT
  refine Met.ofW (cc := cc) (maxL := maxL) (ret := ret) hy rfl ?_
  intro p e s m args below meth c s₁ B hml hv
  obtain ⟨rfl, hok, hkn, hb⟩ := hv
  have hts := atoms_spec (ws := oWd y cc maxL ret) B.pre
  have hown : s.vm.findClass y.cls = some m.cls := findClass_of_methodNamed B.named
  have hnm : meth.name = y.name := (name_of_methodNamed B.named B.method).1
  have C : oCx p s m (av.map (oV b)).toArray c cc maxL y.cls D ids b := ⟨B.exec, B.bytes, hml, hown, fun w hw => hts w (List.mem_cons_of_mem _ hw), hkn, hb⟩
  have hcl := hS p e s m (av.map (oV b)).toArray below meth c b Q C B.returns B.notSynchronized hnm
  have hT2 := hT.2 (oW p l e (oRm fr lo mc ms) s m (av.map (oV b)).toArray below meth c maxL D ids b (oMQ D ids b below Q (av.map (oV b)).toArray s mc ms)) ⟨fun pc lv st mm g h => hcl pc lv st mm g h, fun bs pc lv st mm g h => oW_mask bs pc lv st mm g h⟩
  have hl := lv_entry (av.map (oV b)) (n := maxL) (by rw [oArgs_len]; exact hT.1)
  rw [lg_entry_eq]
  exact hT2 s.heap [] _ hok va_S.rf (oLs.entry hT.1 hl)
theorem oTab_all {K : oK} {Q : oQ} : ∀ (l : List (Nat × oOp)), (∀ q ∈ l, oSn K Q q.1 q.2) → ∀ pc, oSn K Q pc (oTab l pc)
  | [], _, pc => fun lv st mm g h => h.elim
  | q :: l, h, pc => by
    unfold oTab
    split
    · rename_i hq
      rw [← Nat.eq_of_beq_eq_true hq]
      exact h q List.mem_cons_self
    · exact oTab_all l (fun q hq => h q (List.mem_cons_of_mem _ hq)) pc
