def oG : List Cond := lw_tbl.filter goodWord
theorem oG_of {w : Cond} (h : w ∈ lw_tbl) (hg : goodWord w = true) : w ∈ oG := List.mem_filter.mpr ⟨h, hg⟩
theorem oG_t {w : Cond} (h : w ∈ tables_1) (hg : goodWord w = true) : w ∈ oG := oG_of (lw_of h) hg
theorem u_good (C : String) (T : u_T) (k : Nat) : goodWord (u_lay C T k) = true := by
  unfold u_lay
  split <;> rfl
theorem oG_u {C : String} {T : u_T} {N : Nat} (h : ∀ w ∈ u_ws C T N, w ∈ lw_tbl) : ∀ w ∈ u_ws C T N, w ∈ oG := by
  intro w hw
  refine oG_of (h w hw) ?_
  obtain ⟨k, -, rfl⟩ := List.mem_map.mp hw
  exact u_good C T k
section SND
variable {p : Program} {l : Launch} {e : Env} {R : Room} {s : State} {m : MethodId} {args : Array Value} {below : List Frame} {meth : Method} {c : Code} {cc : ByteArray} {nL : Nat} {own : String} {D : va_G} {ids : Nat → ClassId} {b : Nat} {Qf : State → Prop} {Q : oQ} {pc : Nat}
def oCx (p : Program) (s : State) (m : MethodId) (args : Array Value) (c : Code) (cc : ByteArray) (nL : Nat) (own : String) (D : va_G) (ids : Nat → ClassId) (b : Nat) : Prop :=
  p.tables.exec = Jvm.exec ∧ c.code = cc ∧ c.maxLocals = nL ∧ s.vm.findClass own = some m.cls ∧ (∀ w ∈ oG, w.before args s = true) ∧ oKn D ids s ∧ b ≤ s.heap.size
def oW (p : Program) (l : Launch) (e : Env) (R : Room) (s : State) (m : MethodId) (args : Array Value) (below : List Frame) (meth : Method) (c : Code) (nL : Nat) (D : va_G) (ids : Nat → ClassId) (b : Nat) (Qf : State → Prop) : oK := fun pc lv st mm g =>
  ∀ (H : Heap) (locs : List Loc) (ls : Array Slot), oOK D ids b mm H → va_S (fun q => b ≤ q) s.heap H locs → oLs b nL lv ls → W p l e R s m args below meth c H locs g.1 g.2 Qf (F0 m pc ls (st.map (oV b)))
def oSn (K : oK) (Q : oQ) (pc : Nat) (op : oOp) : Prop := ∀ lv st mm g, op lv st mm g K Q → K pc lv st mm g
theorem oW_mask (bs : List Bool) (pc : Nat) (lv : oLV) (st : List oA) (mm : oM) (g : Nat × Nat) (h : oW p l e R s m args below meth c nL D ids b Qf pc (oMask bs lv) st mm g) : oW p l e R s m args below meth c nL D ids b Qf pc lv st mm g :=
  fun H locs ls h1 h2 h3 => h H locs ls h1 h2 (h3.mask bs)
theorem so_iconst (C : oCx p s m args c cc nL own D ids b) {n : Int} (v : Int) (hv : Int32.ofInt n = Int32.ofInt v) (hd : decode cc pc = .ok (.iconst n, 1)) : oSn (oW p l e R s m args below meth c nL D ids b Qf) Q pc (o_push (vI v) (pc + 1)) :=
  fun lv st mm g k H locs ls h1 h2 h3 => lv_iconst C.1 C.2.1 hd hv (k H locs ls h1 h2 h3)
theorem so_bipush (C : oCx p s m args c cc nL own D ids b) {n : Int} (v : Int) (hv : (Int8.ofInt n).toInt32 = Int32.ofInt v) (hd : decode cc pc = .ok (.bipush n, 2)) : oSn (oW p l e R s m args below meth c nL D ids b Qf) Q pc (o_push (vI v) (pc + 2)) :=
  fun lv st mm g k H locs ls h1 h2 h3 => lv_bipush C.1 C.2.1 hd hv (k H locs ls h1 h2 h3)
theorem so_sipush (C : oCx p s m args c cc nL own D ids b) {n : Int} (v : Int) (hv : (Int16.ofInt n).toInt32 = Int32.ofInt v) (hd : decode cc pc = .ok (.sipush n, 3)) : oSn (oW p l e R s m args below meth c nL D ids b Qf) Q pc (o_push (vI v) (pc + 3)) :=
  fun lv st mm g k H locs ls h1 h2 h3 => lv_sipush C.1 C.2.1 hd hv (k H locs ls h1 h2 h3)
theorem so_lconst (C : oCx p s m args c cc nL own D ids b) {n : Fin 2} (v : Int64) (hv : Int64.ofNat (n : Nat) = v) (hd : decode cc pc = .ok (.lconst n, 1)) : oSn (oW p l e R s m args below meth c nL D ids b Qf) Q pc (o_push (vL v) (pc + 1)) :=
  fun lv st mm g k H locs ls h1 h2 h3 => lv_lconst C.1 C.2.1 hd hv (k H locs ls h1 h2 h3)
theorem so_null (C : oCx p s m args c cc nL own D ids b) (hd : decode cc pc = .ok (.aconst_null, 1)) : oSn (oW p l e R s m args below meth c nL D ids b Qf) Q pc (o_push vN (pc + 1)) :=
  fun lv st mm g k H locs ls h1 h2 h3 => lv_null C.1 C.2.1 hd (k H locs ls h1 h2 h3)
theorem so_ldc (C : oCx p s m args c cc nL own D ids b) {i : Nat} (v : Int) {w : Int32} (hw : w = Int32.ofInt v) (hc : Cond.constant own i w ∈ oG) (hd : decode cc pc = .ok (.ldc i, 2)) : oSn (oW p l e R s m args below meth c nL D ids b Qf) Q pc (o_push (vI v) (pc + 2)) := by
  subst hw
  exact fun lv st mm g k H locs ls h1 h2 h3 => lv_ldc C.1 C.2.1 C.2.2.2.1 (C.2.2.2.2.1 _ hc) hd (k H locs ls h1 h2 h3)
theorem so_ldcw (C : oCx p s m args c cc nL own D ids b) {i : Nat} (v : Int) {w : Int32} (hw : w = Int32.ofInt v) (hc : Cond.constant own i w ∈ oG) (hd : decode cc pc = .ok (.ldc_w i, 3)) : oSn (oW p l e R s m args below meth c nL D ids b Qf) Q pc (o_push (vI v) (pc + 3)) := by
  subst hw
  exact fun lv st mm g k H locs ls h1 h2 h3 => lv_ldcw C.1 C.2.1 C.2.2.2.1 (C.2.2.2.2.1 _ hc) hd (k H locs ls h1 h2 h3)
theorem so_ldc2 (C : oCx p s m args c cc nL own D ids b) {i : Nat} (v : Int64) (hc : Cond.constantLong own i v ∈ oG) (hd : decode cc pc = .ok (.ldc2_w i, 3)) : oSn (oW p l e R s m args below meth c nL D ids b Qf) Q pc (o_push (vL v) (pc + 3)) :=
  fun lv st mm g k H locs ls h1 h2 h3 => lv_ldc2 C.1 C.2.1 C.2.2.2.1 (C.2.2.2.2.1 _ hc) hd (k H locs ls h1 h2 h3)
theorem so_iload_n (C : oCx p s m args c cc nL own D ids b) {k4 : Fin 4} (i : Nat) (hi : (k4 : Nat) = i) (hd : decode cc pc = .ok (.iload_n k4, 1)) : oSn (oW p l e R s m args below meth c nL D ids b Qf) Q pc (o_ild i (pc + 1)) := by
  intro lv st mm g k H locs ls h1 h2 h3
  unfold o_ild at k
  split at k
  · rename_i x hx
    exact lv_iload_n C.1 C.2.1 hd hi (h3.2.2.2 i _ hx) (k H locs ls h1 h2 h3)
  · exact k.elim
theorem so_iload (C : oCx p s m args c cc nL own D ids b) (i : Nat) (hd : decode cc pc = .ok (.iload i, 2)) : oSn (oW p l e R s m args below meth c nL D ids b Qf) Q pc (o_ild i (pc + 2)) := by
  intro lv st mm g k H locs ls h1 h2 h3
  unfold o_ild at k
  split at k
  · rename_i x hx
    exact lv_iload C.1 C.2.1 hd (h3.2.2.2 i _ hx) (k H locs ls h1 h2 h3)
  · exact k.elim
theorem so_lload_n (C : oCx p s m args c cc nL own D ids b) {k4 : Fin 4} (i : Nat) (hi : (k4 : Nat) = i) (hd : decode cc pc = .ok (.lload_n k4, 1)) : oSn (oW p l e R s m args below meth c nL D ids b Qf) Q pc (o_lld i (pc + 1)) := by
  intro lv st mm g k H locs ls h1 h2 h3
  unfold o_lld at k
  split at k
  · rename_i x hx
    exact lv_lload_n C.1 C.2.1 hd hi (h3.2.2.2 i _ hx) (k H locs ls h1 h2 h3)
  · exact k.elim
theorem so_lload (C : oCx p s m args c cc nL own D ids b) (i : Nat) (hd : decode cc pc = .ok (.lload i, 2)) : oSn (oW p l e R s m args below meth c nL D ids b Qf) Q pc (o_lld i (pc + 2)) := by
  intro lv st mm g k H locs ls h1 h2 h3
  unfold o_lld at k
  split at k
  · rename_i x hx
    exact lv_lload C.1 C.2.1 hd (h3.2.2.2 i _ hx) (k H locs ls h1 h2 h3)
  · exact k.elim
theorem so_aload_n (C : oCx p s m args c cc nL own D ids b) {k4 : Fin 4} (i : Nat) (hi : (k4 : Nat) = i) (hd : decode cc pc = .ok (.aload_n k4, 1)) : oSn (oW p l e R s m args below meth c nL D ids b Qf) Q pc (o_ald i (pc + 1)) := by
  intro lv st mm g k H locs ls h1 h2 h3
  unfold o_ald at k
  split at k
  · rename_i x hx
    have hl := h3.2.2.2 i _ hx
    match x, hx, k, hl with
    | .inl none, hx, k, hl => exact lv_aload_nN C.1 C.2.1 hd hi hl (k H locs ls h1 h2 h3)
    | .inl (some a), hx, k, hl => exact lv_aload_n C.1 C.2.1 hd hi hl (k H locs ls h1 h2 h3)
    | .inr a, hx, k, hl => exact lv_aload_n C.1 C.2.1 hd hi hl (k H locs ls h1 h2 h3)
  · exact k.elim
theorem so_aload (C : oCx p s m args c cc nL own D ids b) (i : Nat) (hd : decode cc pc = .ok (.aload i, 2)) : oSn (oW p l e R s m args below meth c nL D ids b Qf) Q pc (o_ald i (pc + 2)) := by
  intro lv st mm g k H locs ls h1 h2 h3
  unfold o_ald at k
  split at k
  · rename_i x hx
    have hl := h3.2.2.2 i _ hx
    match x, hx, k, hl with
    | .inl none, hx, k, hl => exact lv_aloadN C.1 C.2.1 hd hl (k H locs ls h1 h2 h3)
    | .inl (some a), hx, k, hl => exact lv_aload C.1 C.2.1 hd hl (k H locs ls h1 h2 h3)
    | .inr a, hx, k, hl => exact lv_aload C.1 C.2.1 hd hl (k H locs ls h1 h2 h3)
  · exact k.elim
theorem so_istore_n (C : oCx p s m args c cc nL own D ids b) {k4 : Fin 4} (i : Nat) (hi : (k4 : Nat) = i) (hn : i < nL) (hd : decode cc pc = .ok (.istore_n k4, 1)) : oSn (oW p l e R s m args below meth c nL D ids b Qf) Q pc (o_ist i (pc + 1)) := by
  intro lv st mm g k H locs ls h1 h2 h3
  unfold o_ist at k
  split at k
  · exact lv_istore_n C.1 C.2.1 hd hi h3.has hn rfl (fun ls' h' => k H locs ls' h1 h2 (h3.st h'))
  · exact k.elim
theorem so_istore (C : oCx p s m args c cc nL own D ids b) (i : Nat) (hn : i < nL) (hd : decode cc pc = .ok (.istore i, 2)) : oSn (oW p l e R s m args below meth c nL D ids b Qf) Q pc (o_ist i (pc + 2)) := by
  intro lv st mm g k H locs ls h1 h2 h3
  unfold o_ist at k
  split at k
  · exact lv_istore C.1 C.2.1 hd h3.has hn rfl (fun ls' h' => k H locs ls' h1 h2 (h3.st h'))
  · exact k.elim
theorem so_lstore_n (C : oCx p s m args c cc nL own D ids b) {k4 : Fin 4} (i : Nat) (hi : (k4 : Nat) = i) (hn : i + 1 < nL) (hd : decode cc pc = .ok (.lstore_n k4, 1)) : oSn (oW p l e R s m args below meth c nL D ids b Qf) Q pc (o_lst i (pc + 1)) := by
  intro lv st mm g k H locs ls h1 h2 h3
  unfold o_lst at k
  split at k
  · exact lv_lstore_n C.1 C.2.1 hd hi h3.has hn rfl (fun ls' h' => k H locs ls' h1 h2 (h3.st2 h'))
  · exact k.elim
theorem so_lstore (C : oCx p s m args c cc nL own D ids b) (i : Nat) (hn : i + 1 < nL) (hd : decode cc pc = .ok (.lstore i, 2)) : oSn (oW p l e R s m args below meth c nL D ids b Qf) Q pc (o_lst i (pc + 2)) := by
  intro lv st mm g k H locs ls h1 h2 h3
  unfold o_lst at k
  split at k
  · exact lv_lstore C.1 C.2.1 hd h3.has hn rfl (fun ls' h' => k H locs ls' h1 h2 (h3.st2 h'))
  · exact k.elim
theorem so_astore_n (C : oCx p s m args c cc nL own D ids b) {k4 : Fin 4} (i : Nat) (hi : (k4 : Nat) = i) (hn : i < nL) (hd : decode cc pc = .ok (.astore_n k4, 1)) : oSn (oW p l e R s m args below meth c nL D ids b Qf) Q pc (o_ast i (pc + 1)) := by
  intro lv st mm g k H locs ls h1 h2 h3
  unfold o_ast at k
  split at k
  · rename_i x r
    match x, k with
    | .inl none, k => exact lv_astore_nN C.1 C.2.1 hd hi h3.has hn rfl (fun ls' h' => k H locs ls' h1 h2 (h3.st (v := .inr (.inr (.inl none))) h'))
    | .inl (some a), k => exact lv_astore_n C.1 C.2.1 hd hi h3.has hn rfl (fun ls' h' => k H locs ls' h1 h2 (h3.st (v := .inr (.inr (.inl (some a)))) h'))
    | .inr a, k => exact lv_astore_n C.1 C.2.1 hd hi h3.has hn rfl (fun ls' h' => k H locs ls' h1 h2 (h3.st (v := .inr (.inr (.inr a))) h'))
  · exact k.elim
theorem so_astore (C : oCx p s m args c cc nL own D ids b) (i : Nat) (hn : i < nL) (hd : decode cc pc = .ok (.astore i, 2)) : oSn (oW p l e R s m args below meth c nL D ids b Qf) Q pc (o_ast i (pc + 2)) := by
  intro lv st mm g k H locs ls h1 h2 h3
  unfold o_ast at k
  split at k
  · rename_i x r
    match x, k with
    | .inl none, k => exact lv_astoreN C.1 C.2.1 hd h3.has hn rfl (fun ls' h' => k H locs ls' h1 h2 (h3.st (v := .inr (.inr (.inl none))) h'))
    | .inl (some a), k => exact lv_astore C.1 C.2.1 hd h3.has hn rfl (fun ls' h' => k H locs ls' h1 h2 (h3.st (v := .inr (.inr (.inl (some a)))) h'))
    | .inr a, k => exact lv_astore C.1 C.2.1 hd h3.has hn rfl (fun ls' h' => k H locs ls' h1 h2 (h3.st (v := .inr (.inr (.inr a))) h'))
  · exact k.elim
theorem so_iinc (C : oCx p s m args c cc nL own D ids b) (i : Nat) (n : Int) (hn : i < nL) (hd : decode cc pc = .ok (.iinc i n, 3)) : oSn (oW p l e R s m args below meth c nL D ids b Qf) Q pc (o_inc i n (pc + 3)) := by
  intro lv st mm g k H locs ls h1 h2 h3
  unfold o_inc at k
  split at k
  · rename_i x hx
    obtain ⟨q, hq⟩ := List.getElem?_of_mem (oPr_mem (b := b) hx)
    exact lv_iinc C.1 C.2.1 hd h3.has hq (on_add x n).symm hn rfl (fun ls' h' => k H locs ls' h1 h2 (h3.st (v := .inl (x + n)) h'))
  · exact k.elim
end SND
