theorem dJ7_fill_53178_0 : decode cJ7_fill_53178 0 = .ok (.iconst 0, 1) := by decide +kernel
theorem dJ7_fill_53178_1 : decode cJ7_fill_53178 1 = .ok (.istore_n 2, 1) := by decide +kernel
theorem dJ7_fill_53178_2 : decode cJ7_fill_53178 2 = .ok (.aload_n 0, 1) := by decide +kernel
theorem dJ7_fill_53178_3 : decode cJ7_fill_53178 3 = .ok (.arraylength, 1) := by decide +kernel
theorem dJ7_fill_53178_4 : decode cJ7_fill_53178 4 = .ok (.istore_n 3, 1) := by decide +kernel
theorem dJ7_fill_53178_5 : decode cJ7_fill_53178 5 = .ok (.iload_n 2, 1) := by decide +kernel
theorem dJ7_fill_53178_6 : decode cJ7_fill_53178 6 = .ok (.iload_n 3, 1) := by decide +kernel
theorem dJ7_fill_53178_7 : decode cJ7_fill_53178 7 = .ok (.if_icmp .ge 13, 3) := by decide +kernel
theorem dJ7_fill_53178_10 : decode cJ7_fill_53178 10 = .ok (.aload_n 0, 1) := by decide +kernel
theorem dJ7_fill_53178_11 : decode cJ7_fill_53178 11 = .ok (.iload_n 2, 1) := by decide +kernel
theorem dJ7_fill_53178_12 : decode cJ7_fill_53178 12 = .ok (.iload_n 1, 1) := by decide +kernel
theorem dJ7_fill_53178_13 : decode cJ7_fill_53178 13 = .ok (.iastore, 1) := by decide +kernel
theorem dJ7_fill_53178_14 : decode cJ7_fill_53178 14 = .ok (.iinc 2 1, 3) := by decide +kernel
theorem dJ7_fill_53178_17 : decode cJ7_fill_53178 17 = .ok (.goto (-12), 3) := by decide +kernel
theorem dJ7_fill_53178_20 : decode cJ7_fill_53178 20 = .ok (.return_, 1) := by decide +kernel
abbrev tl_J7_fill_53178_0 : List (Nat × oOp) := [(0, o_push (vI 0) 1), (1, o_ist 2 2), (2, o_ald 0 3), (3, o_alen 4), (4, o_ist 3 5), (5, o_ild 2 6), (6, o_ild 3 7), (7, o_ic pGe 20 10), (10, o_ald 0 11), (11, o_ild 2 12), (12, o_ild 1 13), (13, o_iast 14), (14, o_inc 2 1 17), (17, o_go 5), (20, o_ret0 0 0)]
set_option maxRecDepth 20000 in
def tb_J7_fill_53178 : Nat → oOp := oTab [(0, o_push (vI 0) 1), (1, o_ist 2 2), (2, o_ald 0 3), (3, o_alen 4), (4, o_ist 3 5), (5, o_ild 2 6), (6, o_ild 3 7), (7, o_ic pGe 20 10), (10, o_ald 0 11), (11, o_ild 2 12), (12, o_ild 1 13), (13, o_iast 14), (14, o_inc 2 1 17), (17, o_go 5), (20, o_ret0 0 0)]
def T_J7_fill_53178 : List oA → oM → oQ → Prop := oT tb_J7_fill_53178 4
set_option maxRecDepth 20000 in
theorem sn_J7_fill_53178_0 {p : Program} {l : Launch} {e : Env} {s : State} {m : MethodId} {args : Array Value} {below : List Frame} {meth : Method} {c : Code} {D : va_G} {ids : Nat → ClassId} {b : Nat} {Q : oQ} (C : oCx p s m args c cJ7_fill_53178 4 (yJ7_fill_53178).cls D ids b) (hr : meth.sig.returnType = none) (hlk : meth.locks = false) (hnm : meth.name = (yJ7_fill_53178).name) : ∀ q ∈ tl_J7_fill_53178_0, oSn (oW p l e (oRm 0 0 0 0) s m args below meth c 4 D ids b (oMQ D ids b below Q args s 0 0)) Q q.1 q.2 := List.forall_mem_cons.mpr ⟨so_iconst C 0 rfl dJ7_fill_53178_0, List.forall_mem_cons.mpr ⟨so_istore_n C 2 rfl (by decide) dJ7_fill_53178_1, List.forall_mem_cons.mpr ⟨so_aload_n C 0 rfl dJ7_fill_53178_2, List.forall_mem_cons.mpr ⟨so_alen C dJ7_fill_53178_3, List.forall_mem_cons.mpr ⟨so_istore_n C 3 rfl (by decide) dJ7_fill_53178_4, List.forall_mem_cons.mpr ⟨so_iload_n C 2 rfl dJ7_fill_53178_5, List.forall_mem_cons.mpr ⟨so_iload_n C 3 rfl dJ7_fill_53178_6, List.forall_mem_cons.mpr ⟨so_ic_ge C (by decide) dJ7_fill_53178_7, List.forall_mem_cons.mpr ⟨so_aload_n C 0 rfl dJ7_fill_53178_10, List.forall_mem_cons.mpr ⟨so_iload_n C 2 rfl dJ7_fill_53178_11, List.forall_mem_cons.mpr ⟨so_iload_n C 1 rfl dJ7_fill_53178_12, List.forall_mem_cons.mpr ⟨so_iast C dJ7_fill_53178_13, List.forall_mem_cons.mpr ⟨so_iinc C 2 1 (by decide) dJ7_fill_53178_14, List.forall_mem_cons.mpr ⟨so_goto C (by decide) dJ7_fill_53178_17, List.forall_mem_cons.mpr ⟨so_ret0 C 0 0 hr hlk dJ7_fill_53178_20, fun _ h => absurd h List.not_mem_nil⟩⟩⟩⟩⟩⟩⟩⟩⟩⟩⟩⟩⟩⟩⟩
set_option maxRecDepth 20000 in
theorem c_J7_fill_53178 (l : Launch) (D : va_G) (ids : Nat → ClassId) : oMT l D ids yJ7_fill_53178 cJ7_fill_53178 4 none 0 0 0 0 T_J7_fill_53178 := oMet l D ids tb_J7_fill_53178 (by decide) (fun p e s m args below meth c b Q C hr hlk hnm => oTab_all (tl_J7_fill_53178_0) (sn_J7_fill_53178_0 C hr hlk hnm))
