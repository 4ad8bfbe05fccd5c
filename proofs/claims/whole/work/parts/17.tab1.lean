theorem dX0_init_0 : decode cX0_init 0 = .ok (.aload_n 0, 1) := by decide +kernel
theorem dX0_init_1 : decode cX0_init 1 = .ok (.invokespecial 3, 3) := by decide +kernel
theorem dX0_init_4 : decode cX0_init 4 = .ok (.aload_n 0, 1) := by decide +kernel
theorem dX0_init_5 : decode cX0_init 5 = .ok (.iload_n 1, 1) := by decide +kernel
theorem dX0_init_6 : decode cX0_init 6 = .ok (.putfield 9, 3) := by decide +kernel
theorem dX0_init_9 : decode cX0_init 9 = .ok (.aload_n 0, 1) := by decide +kernel
theorem dX0_init_10 : decode cX0_init 10 = .ok (.iload_n 2, 1) := by decide +kernel
theorem dX0_init_11 : decode cX0_init 11 = .ok (.putfield 15, 3) := by decide +kernel
theorem dX0_init_14 : decode cX0_init 14 = .ok (.return_, 1) := by decide +kernel
abbrev tl_X0_init_0 : List (Nat × oOp) := [(0, o_ald 0 1), (1, o_obj 4), (4, o_ald 0 5), (5, o_ild 1 6), (6, o_putI [0, 1, 3, 5, 10] 0 9), (9, o_ald 0 10), (10, o_ild 2 11), (11, o_putI [0, 1, 3, 5, 10] 1 14), (14, o_ret0 0 0)]
set_option maxRecDepth 20000 in
def tb_X0_init : Nat → oOp := oTab [(0, o_ald 0 1), (1, o_obj 4), (4, o_ald 0 5), (5, o_ild 1 6), (6, o_putI [0, 1, 3, 5, 10] 0 9), (9, o_ald 0 10), (10, o_ild 2 11), (11, o_putI [0, 1, 3, 5, 10] 1 14), (14, o_ret0 0 0)]
def T_X0_init : List oA → oM → oQ → Prop := oT tb_X0_init 3
set_option maxRecDepth 20000 in
theorem sn_X0_init_0 {p : Program} {l : Launch} {e : Env} {s : State} {m : MethodId} {args : Array Value} {below : List Frame} {meth : Method} {c : Code} {D : va_G} {ids : Nat → ClassId} {b : Nat} {Q : oQ} (C : oCx p s m args c cX0_init 3 (yX0_init).cls D ids b) (hr : meth.sig.returnType = none) (hlk : meth.locks = false) (hnm : meth.name = (yX0_init).name) : ∀ q ∈ tl_X0_init_0, oSn (oW p l e (oRm 1 21 0 0) s m args below meth c 3 D ids b (oMQ D ids b below Q args s 0 0)) Q q.1 q.2 := List.forall_mem_cons.mpr ⟨so_aload_n C 0 rfl dX0_init_0, List.forall_mem_cons.mpr ⟨so_obj C kw_134 kw_23 kw_24 (by decide) (by decide) dX0_init_1, List.forall_mem_cons.mpr ⟨so_aload_n C 0 rfl dX0_init_4, List.forall_mem_cons.mpr ⟨so_iload_n C 1 rfl dX0_init_5, List.forall_mem_cons.mpr ⟨so_putFI C hnm [0, 1, 3, 5, 10] 0 (fd_RX0_9_0_1_3_5_10 C) (ff_0_1_3_5_10_0) (by decide) dX0_init_6, List.forall_mem_cons.mpr ⟨so_aload_n C 0 rfl dX0_init_9, List.forall_mem_cons.mpr ⟨so_iload_n C 2 rfl dX0_init_10, List.forall_mem_cons.mpr ⟨so_putFI C hnm [0, 1, 3, 5, 10] 1 (fd_RX0_15_0_1_3_5_10 C) (ff_0_1_3_5_10_1) (by decide) dX0_init_11, List.forall_mem_cons.mpr ⟨so_ret0 C 0 0 hr hlk dX0_init_14, fun _ h => absurd h List.not_mem_nil⟩⟩⟩⟩⟩⟩⟩⟩⟩
set_option maxRecDepth 20000 in
theorem c_X0_init (l : Launch) (D : va_G) (ids : Nat → ClassId) : oMT l D ids yX0_init cX0_init 3 none 1 21 0 0 T_X0_init := oMet l D ids tb_X0_init (by decide) (fun p e s m args below meth c b Q C hr hlk hnm => oTab_all (tl_X0_init_0) (sn_X0_init_0 C hr hlk hnm))
theorem dX0_kind_0 : decode cX0_kind 0 = .ok (.iconst 0, 1) := by decide +kernel
theorem dX0_kind_1 : decode cX0_kind 1 = .ok (.ireturn, 1) := by decide +kernel
abbrev tl_X0_kind_0 : List (Nat × oOp) := [(0, o_push (vI 0) 1), (1, o_reti 0 0)]
set_option maxRecDepth 20000 in
def tb_X0_kind : Nat → oOp := oTab [(0, o_push (vI 0) 1), (1, o_reti 0 0)]
def T_X0_kind : List oA → oM → oQ → Prop := oT tb_X0_kind 1
set_option maxRecDepth 20000 in
theorem sn_X0_kind_0 {p : Program} {l : Launch} {e : Env} {s : State} {m : MethodId} {args : Array Value} {below : List Frame} {meth : Method} {c : Code} {D : va_G} {ids : Nat → ClassId} {b : Nat} {Q : oQ} (C : oCx p s m args c cX0_kind 1 (yX0_kind).cls D ids b) (hr : meth.sig.returnType = (some .int)) (hlk : meth.locks = false) (hnm : meth.name = (yX0_kind).name) : ∀ q ∈ tl_X0_kind_0, oSn (oW p l e (oRm 0 0 0 0) s m args below meth c 1 D ids b (oMQ D ids b below Q args s 0 0)) Q q.1 q.2 := List.forall_mem_cons.mpr ⟨so_iconst C 0 rfl dX0_kind_0, List.forall_mem_cons.mpr ⟨so_reti C 0 0 hr hlk dX0_kind_1, fun _ h => absurd h List.not_mem_nil⟩⟩
set_option maxRecDepth 20000 in
theorem c_X0_kind (l : Launch) (D : va_G) (ids : Nat → ClassId) : oMT l D ids yX0_kind cX0_kind 1 (some .int) 0 0 0 0 T_X0_kind := oMet l D ids tb_X0_kind (by decide) (fun p e s m args below meth c b Q C hr hlk hnm => oTab_all (tl_X0_kind_0) (sn_X0_kind_0 C hr hlk hnm))
theorem dX4_has_0 : decode cX4_has 0 = .ok (.iload_n 1, 1) := by decide +kernel
theorem dX4_has_1 : decode cX4_has 1 = .ok (.ifCond .lt 15, 3) := by decide +kernel
theorem dX4_has_4 : decode cX4_has 4 = .ok (.iload_n 1, 1) := by decide +kernel
theorem dX4_has_5 : decode cX4_has 5 = .ok (.aload_n 0, 1) := by decide +kernel
theorem dX4_has_6 : decode cX4_has 6 = .ok (.getfield 18, 3) := by decide +kernel
theorem dX4_has_9 : decode cX4_has 9 = .ok (.if_icmp .ge 7, 3) := by decide +kernel
theorem dX4_has_12 : decode cX4_has 12 = .ok (.iconst 1, 1) := by decide +kernel
theorem dX4_has_13 : decode cX4_has 13 = .ok (.goto 4, 3) := by decide +kernel
theorem dX4_has_16 : decode cX4_has 16 = .ok (.iconst 0, 1) := by decide +kernel
theorem dX4_has_17 : decode cX4_has 17 = .ok (.ireturn, 1) := by decide +kernel
abbrev tl_X4_has_0 : List (Nat × oOp) := [(0, o_ild 1 1), (1, o_if zLt 16 4), (4, o_ild 1 5), (5, o_ald 0 6), (6, o_getI [4] 0 9), (9, o_ic pGe 16 12), (12, o_push (vI 1) 13), (13, o_go 17), (16, o_push (vI 0) 17), (17, o_retz 0 0)]
set_option maxRecDepth 20000 in
def tb_X4_has : Nat → oOp := oTab [(0, o_ild 1 1), (1, o_if zLt 16 4), (4, o_ild 1 5), (5, o_ald 0 6), (6, o_getI [4] 0 9), (9, o_ic pGe 16 12), (12, o_push (vI 1) 13), (13, o_go 17), (16, o_push (vI 0) 17), (17, o_retz 0 0)]
def T_X4_has : List oA → oM → oQ → Prop := oT tb_X4_has 2
set_option maxRecDepth 20000 in
theorem sn_X4_has_0 {p : Program} {l : Launch} {e : Env} {s : State} {m : MethodId} {args : Array Value} {below : List Frame} {meth : Method} {c : Code} {D : va_G} {ids : Nat → ClassId} {b : Nat} {Q : oQ} (C : oCx p s m args c cX4_has 2 (yX4_has).cls D ids b) (hr : meth.sig.returnType = (some .boolean)) (hlk : meth.locks = false) (hnm : meth.name = (yX4_has).name) : ∀ q ∈ tl_X4_has_0, oSn (oW p l e (oRm 0 0 0 0) s m args below meth c 2 D ids b (oMQ D ids b below Q args s 0 0)) Q q.1 q.2 := List.forall_mem_cons.mpr ⟨so_iload_n C 1 rfl dX4_has_0, List.forall_mem_cons.mpr ⟨so_if_lt C (by decide) dX4_has_1, List.forall_mem_cons.mpr ⟨so_iload_n C 1 rfl dX4_has_4, List.forall_mem_cons.mpr ⟨so_aload_n C 0 rfl dX4_has_5, List.forall_mem_cons.mpr ⟨so_getI C [4] 0 (fd_RX4_18_4 C) (by decide) dX4_has_6, List.forall_mem_cons.mpr ⟨so_ic_ge C (by decide) dX4_has_9, List.forall_mem_cons.mpr ⟨so_iconst C 1 rfl dX4_has_12, List.forall_mem_cons.mpr ⟨so_goto C (by decide) dX4_has_13, List.forall_mem_cons.mpr ⟨so_iconst C 0 rfl dX4_has_16, List.forall_mem_cons.mpr ⟨so_retz C 0 0 hr hlk dX4_has_17, fun _ h => absurd h List.not_mem_nil⟩⟩⟩⟩⟩⟩⟩⟩⟩⟩
set_option maxRecDepth 20000 in
theorem c_X4_has (l : Launch) (D : va_G) (ids : Nat → ClassId) : oMT l D ids yX4_has cX4_has 2 (some .boolean) 0 0 0 0 T_X4_has := oMet l D ids tb_X4_has (by decide) (fun p e s m args below meth c b Q C hr hlk hnm => oTab_all (tl_X4_has_0) (sn_X4_has_0 C hr hlk hnm))
theorem dX9_isBehind_0 : decode cX9_isBehind 0 = .ok (.aload_n 0, 1) := by decide +kernel
theorem dX9_isBehind_1 : decode cX9_isBehind 1 = .ok (.getfield 15, 3) := by decide +kernel
theorem dX9_isBehind_4 : decode cX9_isBehind 4 = .ok (.iload_n 1, 1) := by decide +kernel
theorem dX9_isBehind_5 : decode cX9_isBehind 5 = .ok (.iaload, 1) := by decide +kernel
theorem dX9_isBehind_6 : decode cX9_isBehind 6 = .ok (.iload_n 3, 1) := by decide +kernel
theorem dX9_isBehind_7 : decode cX9_isBehind 7 = .ok (.if_icmp .eq 19, 3) := by decide +kernel
theorem dX9_isBehind_10 : decode cX9_isBehind 10 = .ok (.aload_n 0, 1) := by decide +kernel
theorem dX9_isBehind_11 : decode cX9_isBehind 11 = .ok (.getfield 15, 3) := by decide +kernel
theorem dX9_isBehind_14 : decode cX9_isBehind 14 = .ok (.iload_n 1, 1) := by decide +kernel
theorem dX9_isBehind_15 : decode cX9_isBehind 15 = .ok (.iaload, 1) := by decide +kernel
theorem dX9_isBehind_16 : decode cX9_isBehind 16 = .ok (.iload_n 3, 1) := by decide +kernel
theorem dX9_isBehind_17 : decode cX9_isBehind 17 = .ok (.if_icmp .le 7, 3) := by decide +kernel
theorem dX9_isBehind_20 : decode cX9_isBehind 20 = .ok (.iconst 1, 1) := by decide +kernel
theorem dX9_isBehind_21 : decode cX9_isBehind 21 = .ok (.goto 4, 3) := by decide +kernel
theorem dX9_isBehind_24 : decode cX9_isBehind 24 = .ok (.iconst 0, 1) := by decide +kernel
theorem dX9_isBehind_25 : decode cX9_isBehind 25 = .ok (.ireturn, 1) := by decide +kernel
theorem dX9_isBehind_26 : decode cX9_isBehind 26 = .ok (.aload_n 0, 1) := by decide +kernel
theorem dX9_isBehind_27 : decode cX9_isBehind 27 = .ok (.getfield 11, 3) := by decide +kernel
theorem dX9_isBehind_30 : decode cX9_isBehind 30 = .ok (.iload_n 1, 1) := by decide +kernel
theorem dX9_isBehind_31 : decode cX9_isBehind 31 = .ok (.iaload, 1) := by decide +kernel
theorem dX9_isBehind_32 : decode cX9_isBehind 32 = .ok (.iload_n 2, 1) := by decide +kernel
theorem dX9_isBehind_33 : decode cX9_isBehind 33 = .ok (.if_icmp .eq 21, 3) := by decide +kernel
theorem dX9_isBehind_36 : decode cX9_isBehind 36 = .ok (.aload_n 0, 1) := by decide +kernel
theorem dX9_isBehind_37 : decode cX9_isBehind 37 = .ok (.getfield 11, 3) := by decide +kernel
theorem dX9_isBehind_40 : decode cX9_isBehind 40 = .ok (.iload_n 1, 1) := by decide +kernel
theorem dX9_isBehind_41 : decode cX9_isBehind 41 = .ok (.iaload, 1) := by decide +kernel
theorem dX9_isBehind_42 : decode cX9_isBehind 42 = .ok (.iload_n 2, 1) := by decide +kernel
theorem dX9_isBehind_43 : decode cX9_isBehind 43 = .ok (.if_icmp .le 7, 3) := by decide +kernel
theorem dX9_isBehind_46 : decode cX9_isBehind 46 = .ok (.iconst 1, 1) := by decide +kernel
theorem dX9_isBehind_47 : decode cX9_isBehind 47 = .ok (.goto 23, 3) := by decide +kernel
theorem dX9_isBehind_50 : decode cX9_isBehind 50 = .ok (.iconst 0, 1) := by decide +kernel
theorem dX9_isBehind_51 : decode cX9_isBehind 51 = .ok (.goto 19, 3) := by decide +kernel
theorem dX9_isBehind_54 : decode cX9_isBehind 54 = .ok (.aload_n 0, 1) := by decide +kernel
theorem dX9_isBehind_55 : decode cX9_isBehind 55 = .ok (.getfield 18, 3) := by decide +kernel
theorem dX9_isBehind_58 : decode cX9_isBehind 58 = .ok (.iload_n 1, 1) := by decide +kernel
theorem dX9_isBehind_59 : decode cX9_isBehind 59 = .ok (.iaload, 1) := by decide +kernel
theorem dX9_isBehind_60 : decode cX9_isBehind 60 = .ok (.iload 4, 2) := by decide +kernel
theorem dX9_isBehind_62 : decode cX9_isBehind 62 = .ok (.if_icmp .le 7, 3) := by decide +kernel
theorem dX9_isBehind_65 : decode cX9_isBehind 65 = .ok (.iconst 1, 1) := by decide +kernel
theorem dX9_isBehind_66 : decode cX9_isBehind 66 = .ok (.goto 4, 3) := by decide +kernel
theorem dX9_isBehind_69 : decode cX9_isBehind 69 = .ok (.iconst 0, 1) := by decide +kernel
theorem dX9_isBehind_70 : decode cX9_isBehind 70 = .ok (.ireturn, 1) := by decide +kernel
abbrev tl_X9_isBehind_0 : List (Nat × oOp) := [(0, o_ald 0 1), (1, o_getR [9] 1 4), (4, o_ild 1 5), (5, o_xald 13 6), (6, o_ild 3 7), (7, o_ic pEq 26 10), (10, o_ald 0 11), (11, o_getR [9] 1 14), (14, o_ild 1 15), (15, o_xald 13 16), (16, o_ild 3 17), (17, o_ic pLe 24 20), (20, o_push (vI 1) 21), (21, o_go 25), (24, o_push (vI 0) 25), (25, o_retz 0 0), (26, o_ald 0 27), (27, o_getR [9] 0 30), (30, o_ild 1 31), (31, o_xald 13 32), (32, o_ild 2 33), (33, o_ic pEq 54 36), (36, o_ald 0 37), (37, o_getR [9] 0 40)]
abbrev tl_X9_isBehind_1 : List (Nat × oOp) := [(40, o_ild 1 41), (41, o_xald 13 42), (42, o_ild 2 43), (43, o_ic pLe 50 46), (46, o_push (vI 1) 47), (47, o_go 70), (50, o_push (vI 0) 51), (51, o_go 70), (54, o_ald 0 55), (55, o_getR [9] 2 58), (58, o_ild 1 59), (59, o_xald 13 60), (60, o_ild 4 62), (62, o_ic pLe 69 65), (65, o_push (vI 1) 66), (66, o_go 70), (69, o_push (vI 0) 70), (70, o_retz 0 0)]
set_option maxRecDepth 20000 in
def tb_X9_isBehind : Nat → oOp := oTab [(0, o_ald 0 1), (1, o_getR [9] 1 4), (4, o_ild 1 5), (5, o_xald 13 6), (6, o_ild 3 7), (7, o_ic pEq 26 10), (10, o_ald 0 11), (11, o_getR [9] 1 14), (14, o_ild 1 15), (15, o_xald 13 16), (16, o_ild 3 17), (17, o_ic pLe 24 20), (20, o_push (vI 1) 21), (21, o_go 25), (24, o_push (vI 0) 25), (25, o_retz 0 0), (26, o_ald 0 27), (27, o_getR [9] 0 30), (30, o_ild 1 31), (31, o_xald 13 32), (32, o_ild 2 33), (33, o_ic pEq 54 36), (36, o_ald 0 37), (37, o_getR [9] 0 40), (40, o_ild 1 41), (41, o_xald 13 42), (42, o_ild 2 43), (43, o_ic pLe 50 46), (46, o_push (vI 1) 47), (47, o_go 70), (50, o_push (vI 0) 51), (51, o_go 70), (54, o_ald 0 55), (55, o_getR [9] 2 58), (58, o_ild 1 59), (59, o_xald 13 60), (60, o_ild 4 62), (62, o_ic pLe 69 65), (65, o_push (vI 1) 66), (66, o_go 70), (69, o_push (vI 0) 70), (70, o_retz 0 0)]
def T_X9_isBehind : List oA → oM → oQ → Prop := oT tb_X9_isBehind 5
set_option maxRecDepth 20000 in
theorem sn_X9_isBehind_0 {p : Program} {l : Launch} {e : Env} {s : State} {m : MethodId} {args : Array Value} {below : List Frame} {meth : Method} {c : Code} {D : va_G} {ids : Nat → ClassId} {b : Nat} {Q : oQ} (C : oCx p s m args c cX9_isBehind 5 (yX9_isBehind).cls D ids b) (hr : meth.sig.returnType = (some .boolean)) (hlk : meth.locks = false) (hnm : meth.name = (yX9_isBehind).name) : ∀ q ∈ tl_X9_isBehind_0, oSn (oW p l e (oRm 0 0 0 0) s m args below meth c 5 D ids b (oMQ D ids b below Q args s 0 0)) Q q.1 q.2 := List.forall_mem_cons.mpr ⟨so_aload_n C 0 rfl dX9_isBehind_0, List.forall_mem_cons.mpr ⟨so_getR C [9] 1 (fd_RX9_15_9 C) (ft_9_1) dX9_isBehind_1, List.forall_mem_cons.mpr ⟨so_iload_n C 1 rfl dX9_isBehind_4, List.forall_mem_cons.mpr ⟨so_iald C dX9_isBehind_5, List.forall_mem_cons.mpr ⟨so_iload_n C 3 rfl dX9_isBehind_6, List.forall_mem_cons.mpr ⟨so_ic_eq C (by decide) dX9_isBehind_7, List.forall_mem_cons.mpr ⟨so_aload_n C 0 rfl dX9_isBehind_10, List.forall_mem_cons.mpr ⟨so_getR C [9] 1 (fd_RX9_15_9 C) (ft_9_1) dX9_isBehind_11, List.forall_mem_cons.mpr ⟨so_iload_n C 1 rfl dX9_isBehind_14, List.forall_mem_cons.mpr ⟨so_iald C dX9_isBehind_15, List.forall_mem_cons.mpr ⟨so_iload_n C 3 rfl dX9_isBehind_16, List.forall_mem_cons.mpr ⟨so_ic_le C (by decide) dX9_isBehind_17, List.forall_mem_cons.mpr ⟨so_iconst C 1 rfl dX9_isBehind_20, List.forall_mem_cons.mpr ⟨so_goto C (by decide) dX9_isBehind_21, List.forall_mem_cons.mpr ⟨so_iconst C 0 rfl dX9_isBehind_24, List.forall_mem_cons.mpr ⟨so_retz C 0 0 hr hlk dX9_isBehind_25, List.forall_mem_cons.mpr ⟨so_aload_n C 0 rfl dX9_isBehind_26, List.forall_mem_cons.mpr ⟨so_getR C [9] 0 (fd_RX9_11_9 C) (ft_9_0) dX9_isBehind_27, List.forall_mem_cons.mpr ⟨so_iload_n C 1 rfl dX9_isBehind_30, List.forall_mem_cons.mpr ⟨so_iald C dX9_isBehind_31, List.forall_mem_cons.mpr ⟨so_iload_n C 2 rfl dX9_isBehind_32, List.forall_mem_cons.mpr ⟨so_ic_eq C (by decide) dX9_isBehind_33, List.forall_mem_cons.mpr ⟨so_aload_n C 0 rfl dX9_isBehind_36, List.forall_mem_cons.mpr ⟨so_getR C [9] 0 (fd_RX9_11_9 C) (ft_9_0) dX9_isBehind_37, fun _ h => absurd h List.not_mem_nil⟩⟩⟩⟩⟩⟩⟩⟩⟩⟩⟩⟩⟩⟩⟩⟩⟩⟩⟩⟩⟩⟩⟩⟩
set_option maxRecDepth 20000 in
theorem sn_X9_isBehind_1 {p : Program} {l : Launch} {e : Env} {s : State} {m : MethodId} {args : Array Value} {below : List Frame} {meth : Method} {c : Code} {D : va_G} {ids : Nat → ClassId} {b : Nat} {Q : oQ} (C : oCx p s m args c cX9_isBehind 5 (yX9_isBehind).cls D ids b) (hr : meth.sig.returnType = (some .boolean)) (hlk : meth.locks = false) (hnm : meth.name = (yX9_isBehind).name) : ∀ q ∈ tl_X9_isBehind_1, oSn (oW p l e (oRm 0 0 0 0) s m args below meth c 5 D ids b (oMQ D ids b below Q args s 0 0)) Q q.1 q.2 := List.forall_mem_cons.mpr ⟨so_iload_n C 1 rfl dX9_isBehind_40, List.forall_mem_cons.mpr ⟨so_iald C dX9_isBehind_41, List.forall_mem_cons.mpr ⟨so_iload_n C 2 rfl dX9_isBehind_42, List.forall_mem_cons.mpr ⟨so_ic_le C (by decide) dX9_isBehind_43, List.forall_mem_cons.mpr ⟨so_iconst C 1 rfl dX9_isBehind_46, List.forall_mem_cons.mpr ⟨so_goto C (by decide) dX9_isBehind_47, List.forall_mem_cons.mpr ⟨so_iconst C 0 rfl dX9_isBehind_50, List.forall_mem_cons.mpr ⟨so_goto C (by decide) dX9_isBehind_51, List.forall_mem_cons.mpr ⟨so_aload_n C 0 rfl dX9_isBehind_54, List.forall_mem_cons.mpr ⟨so_getR C [9] 2 (fd_RX9_18_9 C) (ft_9_2) dX9_isBehind_55, List.forall_mem_cons.mpr ⟨so_iload_n C 1 rfl dX9_isBehind_58, List.forall_mem_cons.mpr ⟨so_iald C dX9_isBehind_59, List.forall_mem_cons.mpr ⟨so_iload C 4 dX9_isBehind_60, List.forall_mem_cons.mpr ⟨so_ic_le C (by decide) dX9_isBehind_62, List.forall_mem_cons.mpr ⟨so_iconst C 1 rfl dX9_isBehind_65, List.forall_mem_cons.mpr ⟨so_goto C (by decide) dX9_isBehind_66, List.forall_mem_cons.mpr ⟨so_iconst C 0 rfl dX9_isBehind_69, List.forall_mem_cons.mpr ⟨so_retz C 0 0 hr hlk dX9_isBehind_70, fun _ h => absurd h List.not_mem_nil⟩⟩⟩⟩⟩⟩⟩⟩⟩⟩⟩⟩⟩⟩⟩⟩⟩⟩
set_option maxRecDepth 20000 in
theorem c_X9_isBehind (l : Launch) (D : va_G) (ids : Nat → ClassId) : oMT l D ids yX9_isBehind cX9_isBehind 5 (some .boolean) 0 0 0 0 T_X9_isBehind := oMet l D ids tb_X9_isBehind (by decide) (fun p e s m args below meth c b Q C hr hlk hnm => oTab_all (tl_X9_isBehind_0 ++ (tl_X9_isBehind_1)) (List.forall_mem_append.mpr ⟨sn_X9_isBehind_0 C hr hlk hnm, sn_X9_isBehind_1 C hr hlk hnm⟩))
theorem dX9_add_0 : decode cX9_add 0 = .ok (.iload 5, 2) := by decide +kernel
theorem dX9_add_2 : decode cX9_add 2 = .ok (.aload_n 2, 1) := by decide +kernel
theorem dX9_add_3 : decode cX9_add 3 = .ok (.getfield 21, 3) := by decide +kernel
theorem dX9_add_6 : decode cX9_add 6 = .ok (.iconst 1, 1) := by decide +kernel
theorem dX9_add_7 : decode cX9_add 7 = .ok (.isub, 1) := by decide +kernel
theorem dX9_add_8 : decode cX9_add 8 = .ok (.invokestatic 27, 3) := by decide +kernel
theorem dX9_add_11 : decode cX9_add 11 = .ok (.istore 6, 2) := by decide +kernel
theorem dX9_add_13 : decode cX9_add 13 = .ok (.aload_n 1, 1) := by decide +kernel
theorem dX9_add_14 : decode cX9_add 14 = .ok (.iload_n 3, 1) := by decide +kernel
theorem dX9_add_15 : decode cX9_add 15 = .ok (.invokevirtual 33, 3) := by decide +kernel
theorem dX9_add_18 : decode cX9_add 18 = .ok (.ifCond .eq 28, 3) := by decide +kernel
theorem dX9_add_21 : decode cX9_add 21 = .ok (.aload_n 1, 1) := by decide +kernel
theorem dX9_add_22 : decode cX9_add 22 = .ok (.getfield 39, 3) := by decide +kernel
theorem dX9_add_25 : decode cX9_add 25 = .ok (.iload_n 3, 1) := by decide +kernel
theorem dX9_add_26 : decode cX9_add 26 = .ok (.iaload, 1) := by decide +kernel
theorem dX9_add_27 : decode cX9_add 27 = .ok (.ifCond .eq 19, 3) := by decide +kernel
theorem dX9_add_30 : decode cX9_add 30 = .ok (.iload 4, 2) := by decide +kernel
theorem dX9_add_32 : decode cX9_add 32 = .ok (.iload 6, 2) := by decide +kernel
theorem dX9_add_34 : decode cX9_add 34 = .ok (.if_icmp .gt 12, 3) := by decide +kernel
theorem dX9_add_37 : decode cX9_add 37 = .ok (.aload_n 0, 1) := by decide +kernel
theorem dX9_add_38 : decode cX9_add 38 = .ok (.getfield 42, 3) := by decide +kernel
theorem dX9_add_41 : decode cX9_add 41 = .ok (.bipush 30, 2) := by decide +kernel
theorem dX9_add_43 : decode cX9_add 43 = .ok (.if_icmp .lt 4, 3) := by decide +kernel
theorem dX9_add_46 : decode cX9_add 46 = .ok (.return_, 1) := by decide +kernel
theorem dX9_add_47 : decode cX9_add 47 = .ok (.aload_n 0, 1) := by decide +kernel
theorem dX9_add_48 : decode cX9_add 48 = .ok (.getfield 42, 3) := by decide +kernel
theorem dX9_add_51 : decode cX9_add 51 = .ok (.istore 7, 2) := by decide +kernel
theorem dX9_add_53 : decode cX9_add 53 = .ok (.iload 7, 2) := by decide +kernel
theorem dX9_add_55 : decode cX9_add 55 = .ok (.ifCond .le 73, 3) := by decide +kernel
theorem dX9_add_58 : decode cX9_add 58 = .ok (.aload_n 0, 1) := by decide +kernel
theorem dX9_add_59 : decode cX9_add 59 = .ok (.iload 7, 2) := by decide +kernel
theorem dX9_add_61 : decode cX9_add 61 = .ok (.iconst 1, 1) := by decide +kernel
theorem dX9_add_62 : decode cX9_add 62 = .ok (.isub, 1) := by decide +kernel
theorem dX9_add_63 : decode cX9_add 63 = .ok (.iload_n 3, 1) := by decide +kernel
theorem dX9_add_64 : decode cX9_add 64 = .ok (.iload 4, 2) := by decide +kernel
theorem dX9_add_66 : decode cX9_add 66 = .ok (.iload 6, 2) := by decide +kernel
theorem dX9_add_68 : decode cX9_add 68 = .ok (.invokevirtual 45, 3) := by decide +kernel
theorem dX9_add_71 : decode cX9_add 71 = .ok (.ifCond .eq 57, 3) := by decide +kernel
theorem dX9_add_74 : decode cX9_add 74 = .ok (.aload_n 0, 1) := by decide +kernel
theorem dX9_add_75 : decode cX9_add 75 = .ok (.getfield 11, 3) := by decide +kernel
theorem dX9_add_78 : decode cX9_add 78 = .ok (.iload 7, 2) := by decide +kernel
theorem dX9_add_80 : decode cX9_add 80 = .ok (.aload_n 0, 1) := by decide +kernel
theorem dX9_add_81 : decode cX9_add 81 = .ok (.getfield 11, 3) := by decide +kernel
theorem dX9_add_84 : decode cX9_add 84 = .ok (.iload 7, 2) := by decide +kernel
theorem dX9_add_86 : decode cX9_add 86 = .ok (.iconst 1, 1) := by decide +kernel
theorem dX9_add_87 : decode cX9_add 87 = .ok (.isub, 1) := by decide +kernel
theorem dX9_add_88 : decode cX9_add 88 = .ok (.iaload, 1) := by decide +kernel
theorem dX9_add_89 : decode cX9_add 89 = .ok (.iastore, 1) := by decide +kernel
theorem dX9_add_90 : decode cX9_add 90 = .ok (.aload_n 0, 1) := by decide +kernel
theorem dX9_add_91 : decode cX9_add 91 = .ok (.getfield 15, 3) := by decide +kernel
theorem dX9_add_94 : decode cX9_add 94 = .ok (.iload 7, 2) := by decide +kernel
theorem dX9_add_96 : decode cX9_add 96 = .ok (.aload_n 0, 1) := by decide +kernel
theorem dX9_add_97 : decode cX9_add 97 = .ok (.getfield 15, 3) := by decide +kernel
theorem dX9_add_100 : decode cX9_add 100 = .ok (.iload 7, 2) := by decide +kernel
theorem dX9_add_102 : decode cX9_add 102 = .ok (.iconst 1, 1) := by decide +kernel
theorem dX9_add_103 : decode cX9_add 103 = .ok (.isub, 1) := by decide +kernel
theorem dX9_add_104 : decode cX9_add 104 = .ok (.iaload, 1) := by decide +kernel
theorem dX9_add_105 : decode cX9_add 105 = .ok (.iastore, 1) := by decide +kernel
theorem dX9_add_106 : decode cX9_add 106 = .ok (.aload_n 0, 1) := by decide +kernel
theorem dX9_add_107 : decode cX9_add 107 = .ok (.getfield 18, 3) := by decide +kernel
theorem dX9_add_110 : decode cX9_add 110 = .ok (.iload 7, 2) := by decide +kernel
theorem dX9_add_112 : decode cX9_add 112 = .ok (.aload_n 0, 1) := by decide +kernel
theorem dX9_add_113 : decode cX9_add 113 = .ok (.getfield 18, 3) := by decide +kernel
theorem dX9_add_116 : decode cX9_add 116 = .ok (.iload 7, 2) := by decide +kernel
theorem dX9_add_118 : decode cX9_add 118 = .ok (.iconst 1, 1) := by decide +kernel
theorem dX9_add_119 : decode cX9_add 119 = .ok (.isub, 1) := by decide +kernel
theorem dX9_add_120 : decode cX9_add 120 = .ok (.iaload, 1) := by decide +kernel
theorem dX9_add_121 : decode cX9_add 121 = .ok (.iastore, 1) := by decide +kernel
theorem dX9_add_122 : decode cX9_add 122 = .ok (.iinc 7 (-1), 3) := by decide +kernel
theorem dX9_add_125 : decode cX9_add 125 = .ok (.goto (-72), 3) := by decide +kernel
theorem dX9_add_128 : decode cX9_add 128 = .ok (.aload_n 0, 1) := by decide +kernel
theorem dX9_add_129 : decode cX9_add 129 = .ok (.getfield 11, 3) := by decide +kernel
theorem dX9_add_132 : decode cX9_add 132 = .ok (.iload 7, 2) := by decide +kernel
theorem dX9_add_134 : decode cX9_add 134 = .ok (.iload_n 3, 1) := by decide +kernel
theorem dX9_add_135 : decode cX9_add 135 = .ok (.iastore, 1) := by decide +kernel
theorem dX9_add_136 : decode cX9_add 136 = .ok (.aload_n 0, 1) := by decide +kernel
theorem dX9_add_137 : decode cX9_add 137 = .ok (.getfield 15, 3) := by decide +kernel
theorem dX9_add_140 : decode cX9_add 140 = .ok (.iload 7, 2) := by decide +kernel
theorem dX9_add_142 : decode cX9_add 142 = .ok (.iload 4, 2) := by decide +kernel
theorem dX9_add_144 : decode cX9_add 144 = .ok (.iastore, 1) := by decide +kernel
theorem dX9_add_145 : decode cX9_add 145 = .ok (.aload_n 0, 1) := by decide +kernel
theorem dX9_add_146 : decode cX9_add 146 = .ok (.getfield 18, 3) := by decide +kernel
theorem dX9_add_149 : decode cX9_add 149 = .ok (.iload 7, 2) := by decide +kernel
theorem dX9_add_151 : decode cX9_add 151 = .ok (.iload 6, 2) := by decide +kernel
theorem dX9_add_153 : decode cX9_add 153 = .ok (.iastore, 1) := by decide +kernel
theorem dX9_add_154 : decode cX9_add 154 = .ok (.aload_n 0, 1) := by decide +kernel
theorem dX9_add_155 : decode cX9_add 155 = .ok (.dup, 1) := by decide +kernel
theorem dX9_add_156 : decode cX9_add 156 = .ok (.getfield 42, 3) := by decide +kernel
theorem dX9_add_159 : decode cX9_add 159 = .ok (.iconst 1, 1) := by decide +kernel
theorem dX9_add_160 : decode cX9_add 160 = .ok (.iadd, 1) := by decide +kernel
theorem dX9_add_161 : decode cX9_add 161 = .ok (.putfield 42, 3) := by decide +kernel
theorem dX9_add_164 : decode cX9_add 164 = .ok (.return_, 1) := by decide +kernel
abbrev tl_X9_add_0 : List (Nat × oOp) := [(0, o_ild 5 2), (2, o_ald 2 3), (3, o_getI [6] 0 6), (6, o_push (vI 1) 7), (7, o_ib fSub 8), (8, o_math2 fMin 0 0 11), (11, o_ist 6 13), (13, o_ald 1 14), (14, o_ild 3 15), (15, o_callo T_X4_has 4 1 0 0 0 0 18), (18, o_if zEq 46 21), (21, o_ald 1 22), (22, o_getR [4] 2 25), (25, o_ild 3 26), (26, o_xald 13 27), (27, o_if zEq 46 30), (30, o_ild 4 32), (32, o_ild 6 34), (34, o_ic pGt 46 37), (37, o_ald 0 38), (38, o_getI [9] 3 41), (41, o_push (vI 30) 43), (43, o_ic pLt 47 46), (46, o_ret0 0 0)]
abbrev tl_X9_add_1 : List (Nat × oOp) := [(47, o_ald 0 48), (48, o_getI [9] 3 51), (51, o_ist 7 53), (53, o_ild 7 55), (55, o_if zLe 128 58), (58, o_ald 0 59), (59, o_ild 7 61), (61, o_push (vI 1) 62), (62, o_ib fSub 63), (63, o_ild 3 64), (64, o_ild 4 66), (66, o_ild 6 68), (68, o_callo T_X9_isBehind 9 4 0 0 0 0 71), (71, o_if zEq 128 74), (74, o_ald 0 75), (75, o_getR [9] 0 78), (78, o_ild 7 80), (80, o_ald 0 81), (81, o_getR [9] 0 84), (84, o_ild 7 86), (86, o_push (vI 1) 87), (87, o_ib fSub 88), (88, o_xald 13 89), (89, o_iast 90)]
abbrev tl_X9_add_2 : List (Nat × oOp) := [(90, o_ald 0 91), (91, o_getR [9] 1 94), (94, o_ild 7 96), (96, o_ald 0 97), (97, o_getR [9] 1 100), (100, o_ild 7 102), (102, o_push (vI 1) 103), (103, o_ib fSub 104), (104, o_xald 13 105), (105, o_iast 106), (106, o_ald 0 107), (107, o_getR [9] 2 110), (110, o_ild 7 112), (112, o_ald 0 113), (113, o_getR [9] 2 116), (116, o_ild 7 118), (118, o_push (vI 1) 119), (119, o_ib fSub 120), (120, o_xald 13 121), (121, o_iast 122), (122, o_inc 7 (-1) 125), (125, o_go 53), (128, o_ald 0 129), (129, o_getR [9] 0 132)]
abbrev tl_X9_add_3 : List (Nat × oOp) := [(132, o_ild 7 134), (134, o_ild 3 135), (135, o_iast 136), (136, o_ald 0 137), (137, o_getR [9] 1 140), (140, o_ild 7 142), (142, o_ild 4 144), (144, o_iast 145), (145, o_ald 0 146), (146, o_getR [9] 2 149), (149, o_ild 7 151), (151, o_ild 6 153), (153, o_iast 154), (154, o_ald 0 155), (155, o_dup 156), (156, o_getI [9] 3 159), (159, o_push (vI 1) 160), (160, o_ib fAdd 161), (161, o_putI [9] 3 164), (164, o_ret0 0 0)]
set_option maxRecDepth 20000 in
def tb_X9_add : Nat → oOp := oTab [(0, o_ild 5 2), (2, o_ald 2 3), (3, o_getI [6] 0 6), (6, o_push (vI 1) 7), (7, o_ib fSub 8), (8, o_math2 fMin 0 0 11), (11, o_ist 6 13), (13, o_ald 1 14), (14, o_ild 3 15), (15, o_callo T_X4_has 4 1 0 0 0 0 18), (18, o_if zEq 46 21), (21, o_ald 1 22), (22, o_getR [4] 2 25), (25, o_ild 3 26), (26, o_xald 13 27), (27, o_if zEq 46 30), (30, o_ild 4 32), (32, o_ild 6 34), (34, o_ic pGt 46 37), (37, o_ald 0 38), (38, o_getI [9] 3 41), (41, o_push (vI 30) 43), (43, o_ic pLt 47 46), (46, o_ret0 0 0), (47, o_ald 0 48), (48, o_getI [9] 3 51), (51, o_ist 7 53), (53, o_ild 7 55), (55, o_if zLe 128 58), (58, o_ald 0 59), (59, o_ild 7 61), (61, o_push (vI 1) 62), (62, o_ib fSub 63), (63, o_ild 3 64), (64, o_ild 4 66), (66, o_ild 6 68), (68, o_callo T_X9_isBehind 9 4 0 0 0 0 71), (71, o_if zEq 128 74), (74, o_ald 0 75), (75, o_getR [9] 0 78), (78, o_ild 7 80), (80, o_ald 0 81), (81, o_getR [9] 0 84), (84, o_ild 7 86), (86, o_push (vI 1) 87), (87, o_ib fSub 88), (88, o_xald 13 89), (89, o_iast 90), (90, o_ald 0 91), (91, o_getR [9] 1 94), (94, o_ild 7 96), (96, o_ald 0 97), (97, o_getR [9] 1 100), (100, o_ild 7 102), (102, o_push (vI 1) 103), (103, o_ib fSub 104), (104, o_xald 13 105), (105, o_iast 106), (106, o_ald 0 107), (107, o_getR [9] 2 110), (110, o_ild 7 112), (112, o_ald 0 113), (113, o_getR [9] 2 116), (116, o_ild 7 118), (118, o_push (vI 1) 119), (119, o_ib fSub 120), (120, o_xald 13 121), (121, o_iast 122), (122, o_inc 7 (-1) 125), (125, o_go 53), (128, o_ald 0 129), (129, o_getR [9] 0 132), (132, o_ild 7 134), (134, o_ild 3 135), (135, o_iast 136), (136, o_ald 0 137), (137, o_getR [9] 1 140), (140, o_ild 7 142), (142, o_ild 4 144), (144, o_iast 145), (145, o_ald 0 146), (146, o_getR [9] 2 149), (149, o_ild 7 151), (151, o_ild 6 153), (153, o_iast 154), (154, o_ald 0 155), (155, o_dup 156), (156, o_getI [9] 3 159), (159, o_push (vI 1) 160), (160, o_ib fAdd 161), (161, o_putI [9] 3 164), (164, o_ret0 0 0)]
def T_X9_add : List oA → oM → oQ → Prop := oT tb_X9_add 8
set_option maxRecDepth 20000 in
theorem sn_X9_add_0 {p : Program} {l : Launch} {e : Env} {s : State} {m : MethodId} {args : Array Value} {below : List Frame} {meth : Method} {c : Code} {D : va_G} {ids : Nat → ClassId} {b : Nat} {Q : oQ} (C : oCx p s m args c cX9_add 8 (yX9_add).cls D ids b) (hr : meth.sig.returnType = none) (hlk : meth.locks = false) (hnm : meth.name = (yX9_add).name) : ∀ q ∈ tl_X9_add_0, oSn (oW p l e (oRm 1 24 0 0) s m args below meth c 8 D ids b (oMQ D ids b below Q args s 0 0)) Q q.1 q.2 := List.forall_mem_cons.mpr ⟨so_iload C 5 dX9_add_0, List.forall_mem_cons.mpr ⟨so_aload_n C 2 rfl dX9_add_2, List.forall_mem_cons.mpr ⟨so_getI C [6] 0 (fd_RX9_21_6 C) (by decide) dX9_add_3, List.forall_mem_cons.mpr ⟨so_iconst C 1 rfl dX9_add_6, List.forall_mem_cons.mpr ⟨so_isub C dX9_add_7, List.forall_mem_cons.mpr ⟨so_min C 0 0 ⟨Nat.le_refl _, Nat.le_refl _⟩ kw_574 kw_417 kw_12 kw_418 (by decide) (by decide) dX9_add_8, List.forall_mem_cons.mpr ⟨so_istore C 6 (by decide) dX9_add_11, List.forall_mem_cons.mpr ⟨so_aload_n C 1 rfl dX9_add_13, List.forall_mem_cons.mpr ⟨so_iload_n C 3 rfl dX9_add_14, List.forall_mem_cons.mpr ⟨so_callV C (y := yX4_has) 4 1 0 0 (RX4, TX4, 7) (by decide) rfl rfl ⟨Nat.le_refl _, Nat.le_refl _⟩ (c_X4_has l D ids) kw_518 kw_575 kw_516 kw_517 kw_3 hy_X4_has ⟨Nat.le_of_ble_eq_true rfl, Nat.le_of_ble_eq_true rfl⟩ dX9_add_15, List.forall_mem_cons.mpr ⟨so_if_eq C (by decide) dX9_add_18, List.forall_mem_cons.mpr ⟨so_aload_n C 1 rfl dX9_add_21, List.forall_mem_cons.mpr ⟨so_getR C [4] 2 (fd_RX9_39_4 C) (ft_4_2) dX9_add_22, List.forall_mem_cons.mpr ⟨so_iload_n C 3 rfl dX9_add_25, List.forall_mem_cons.mpr ⟨so_iald C dX9_add_26, List.forall_mem_cons.mpr ⟨so_if_eq C (by decide) dX9_add_27, List.forall_mem_cons.mpr ⟨so_iload C 4 dX9_add_30, List.forall_mem_cons.mpr ⟨so_iload C 6 dX9_add_32, List.forall_mem_cons.mpr ⟨so_ic_gt C (by decide) dX9_add_34, List.forall_mem_cons.mpr ⟨so_aload_n C 0 rfl dX9_add_37, List.forall_mem_cons.mpr ⟨so_getI C [9] 3 (fd_RX9_42_9 C) (by decide) dX9_add_38, List.forall_mem_cons.mpr ⟨so_bipush C 30 rfl dX9_add_41, List.forall_mem_cons.mpr ⟨so_ic_lt C (by decide) dX9_add_43, List.forall_mem_cons.mpr ⟨so_ret0 C 0 0 hr hlk dX9_add_46, fun _ h => absurd h List.not_mem_nil⟩⟩⟩⟩⟩⟩⟩⟩⟩⟩⟩⟩⟩⟩⟩⟩⟩⟩⟩⟩⟩⟩⟩⟩
set_option maxRecDepth 20000 in
theorem sn_X9_add_1 {p : Program} {l : Launch} {e : Env} {s : State} {m : MethodId} {args : Array Value} {below : List Frame} {meth : Method} {c : Code} {D : va_G} {ids : Nat → ClassId} {b : Nat} {Q : oQ} (C : oCx p s m args c cX9_add 8 (yX9_add).cls D ids b) (hr : meth.sig.returnType = none) (hlk : meth.locks = false) (hnm : meth.name = (yX9_add).name) : ∀ q ∈ tl_X9_add_1, oSn (oW p l e (oRm 1 24 0 0) s m args below meth c 8 D ids b (oMQ D ids b below Q args s 0 0)) Q q.1 q.2 := List.forall_mem_cons.mpr ⟨so_aload_n C 0 rfl dX9_add_47, List.forall_mem_cons.mpr ⟨so_getI C [9] 3 (fd_RX9_42_9 C) (by decide) dX9_add_48, List.forall_mem_cons.mpr ⟨so_istore C 7 (by decide) dX9_add_51, List.forall_mem_cons.mpr ⟨so_iload C 7 dX9_add_53, List.forall_mem_cons.mpr ⟨so_if_le C (by decide) dX9_add_55, List.forall_mem_cons.mpr ⟨so_aload_n C 0 rfl dX9_add_58, List.forall_mem_cons.mpr ⟨so_iload C 7 dX9_add_59, List.forall_mem_cons.mpr ⟨so_iconst C 1 rfl dX9_add_61, List.forall_mem_cons.mpr ⟨so_isub C dX9_add_62, List.forall_mem_cons.mpr ⟨so_iload_n C 3 rfl dX9_add_63, List.forall_mem_cons.mpr ⟨so_iload C 4 dX9_add_64, List.forall_mem_cons.mpr ⟨so_iload C 6 dX9_add_66, List.forall_mem_cons.mpr ⟨so_callV C (y := yX9_isBehind) 9 4 0 0 (RX9, TX9, 4) (by decide) rfl rfl ⟨Nat.le_refl _, Nat.le_refl _⟩ (c_X9_isBehind l D ids) kw_579 kw_576 kw_578 kp_12 kw_8 hy_X9_isBehind ⟨Nat.le_of_ble_eq_true rfl, Nat.le_of_ble_eq_true rfl⟩ dX9_add_68, List.forall_mem_cons.mpr ⟨so_if_eq C (by decide) dX9_add_71, List.forall_mem_cons.mpr ⟨so_aload_n C 0 rfl dX9_add_74, List.forall_mem_cons.mpr ⟨so_getR C [9] 0 (fd_RX9_11_9 C) (ft_9_0) dX9_add_75, List.forall_mem_cons.mpr ⟨so_iload C 7 dX9_add_78, List.forall_mem_cons.mpr ⟨so_aload_n C 0 rfl dX9_add_80, List.forall_mem_cons.mpr ⟨so_getR C [9] 0 (fd_RX9_11_9 C) (ft_9_0) dX9_add_81, List.forall_mem_cons.mpr ⟨so_iload C 7 dX9_add_84, List.forall_mem_cons.mpr ⟨so_iconst C 1 rfl dX9_add_86, List.forall_mem_cons.mpr ⟨so_isub C dX9_add_87, List.forall_mem_cons.mpr ⟨so_iald C dX9_add_88, List.forall_mem_cons.mpr ⟨so_iast C dX9_add_89, fun _ h => absurd h List.not_mem_nil⟩⟩⟩⟩⟩⟩⟩⟩⟩⟩⟩⟩⟩⟩⟩⟩⟩⟩⟩⟩⟩⟩⟩⟩
set_option maxRecDepth 20000 in
theorem sn_X9_add_2 {p : Program} {l : Launch} {e : Env} {s : State} {m : MethodId} {args : Array Value} {below : List Frame} {meth : Method} {c : Code} {D : va_G} {ids : Nat → ClassId} {b : Nat} {Q : oQ} (C : oCx p s m args c cX9_add 8 (yX9_add).cls D ids b) (hr : meth.sig.returnType = none) (hlk : meth.locks = false) (hnm : meth.name = (yX9_add).name) : ∀ q ∈ tl_X9_add_2, oSn (oW p l e (oRm 1 24 0 0) s m args below meth c 8 D ids b (oMQ D ids b below Q args s 0 0)) Q q.1 q.2 := List.forall_mem_cons.mpr ⟨so_aload_n C 0 rfl dX9_add_90, List.forall_mem_cons.mpr ⟨so_getR C [9] 1 (fd_RX9_15_9 C) (ft_9_1) dX9_add_91, List.forall_mem_cons.mpr ⟨so_iload C 7 dX9_add_94, List.forall_mem_cons.mpr ⟨so_aload_n C 0 rfl dX9_add_96, List.forall_mem_cons.mpr ⟨so_getR C [9] 1 (fd_RX9_15_9 C) (ft_9_1) dX9_add_97, List.forall_mem_cons.mpr ⟨so_iload C 7 dX9_add_100, List.forall_mem_cons.mpr ⟨so_iconst C 1 rfl dX9_add_102, List.forall_mem_cons.mpr ⟨so_isub C dX9_add_103, List.forall_mem_cons.mpr ⟨so_iald C dX9_add_104, List.forall_mem_cons.mpr ⟨so_iast C dX9_add_105, List.forall_mem_cons.mpr ⟨so_aload_n C 0 rfl dX9_add_106, List.forall_mem_cons.mpr ⟨so_getR C [9] 2 (fd_RX9_18_9 C) (ft_9_2) dX9_add_107, List.forall_mem_cons.mpr ⟨so_iload C 7 dX9_add_110, List.forall_mem_cons.mpr ⟨so_aload_n C 0 rfl dX9_add_112, List.forall_mem_cons.mpr ⟨so_getR C [9] 2 (fd_RX9_18_9 C) (ft_9_2) dX9_add_113, List.forall_mem_cons.mpr ⟨so_iload C 7 dX9_add_116, List.forall_mem_cons.mpr ⟨so_iconst C 1 rfl dX9_add_118, List.forall_mem_cons.mpr ⟨so_isub C dX9_add_119, List.forall_mem_cons.mpr ⟨so_iald C dX9_add_120, List.forall_mem_cons.mpr ⟨so_iast C dX9_add_121, List.forall_mem_cons.mpr ⟨so_iinc C 7 (-1) (by decide) dX9_add_122, List.forall_mem_cons.mpr ⟨so_goto C (by decide) dX9_add_125, List.forall_mem_cons.mpr ⟨so_aload_n C 0 rfl dX9_add_128, List.forall_mem_cons.mpr ⟨so_getR C [9] 0 (fd_RX9_11_9 C) (ft_9_0) dX9_add_129, fun _ h => absurd h List.not_mem_nil⟩⟩⟩⟩⟩⟩⟩⟩⟩⟩⟩⟩⟩⟩⟩⟩⟩⟩⟩⟩⟩⟩⟩⟩
set_option maxRecDepth 20000 in
theorem sn_X9_add_3 {p : Program} {l : Launch} {e : Env} {s : State} {m : MethodId} {args : Array Value} {below : List Frame} {meth : Method} {c : Code} {D : va_G} {ids : Nat → ClassId} {b : Nat} {Q : oQ} (C : oCx p s m args c cX9_add 8 (yX9_add).cls D ids b) (hr : meth.sig.returnType = none) (hlk : meth.locks = false) (hnm : meth.name = (yX9_add).name) : ∀ q ∈ tl_X9_add_3, oSn (oW p l e (oRm 1 24 0 0) s m args below meth c 8 D ids b (oMQ D ids b below Q args s 0 0)) Q q.1 q.2 := List.forall_mem_cons.mpr ⟨so_iload C 7 dX9_add_132, List.forall_mem_cons.mpr ⟨so_iload_n C 3 rfl dX9_add_134, List.forall_mem_cons.mpr ⟨so_iast C dX9_add_135, List.forall_mem_cons.mpr ⟨so_aload_n C 0 rfl dX9_add_136, List.forall_mem_cons.mpr ⟨so_getR C [9] 1 (fd_RX9_15_9 C) (ft_9_1) dX9_add_137, List.forall_mem_cons.mpr ⟨so_iload C 7 dX9_add_140, List.forall_mem_cons.mpr ⟨so_iload C 4 dX9_add_142, List.forall_mem_cons.mpr ⟨so_iast C dX9_add_144, List.forall_mem_cons.mpr ⟨so_aload_n C 0 rfl dX9_add_145, List.forall_mem_cons.mpr ⟨so_getR C [9] 2 (fd_RX9_18_9 C) (ft_9_2) dX9_add_146, List.forall_mem_cons.mpr ⟨so_iload C 7 dX9_add_149, List.forall_mem_cons.mpr ⟨so_iload C 6 dX9_add_151, List.forall_mem_cons.mpr ⟨so_iast C dX9_add_153, List.forall_mem_cons.mpr ⟨so_aload_n C 0 rfl dX9_add_154, List.forall_mem_cons.mpr ⟨so_dup C dX9_add_155, List.forall_mem_cons.mpr ⟨so_getI C [9] 3 (fd_RX9_42_9 C) (by decide) dX9_add_156, List.forall_mem_cons.mpr ⟨so_iconst C 1 rfl dX9_add_159, List.forall_mem_cons.mpr ⟨so_iadd C dX9_add_160, List.forall_mem_cons.mpr ⟨so_putI C [9] 3 (fd_RX9_42_9 C) (fn_9_3) (by decide) dX9_add_161, List.forall_mem_cons.mpr ⟨so_ret0 C 0 0 hr hlk dX9_add_164, fun _ h => absurd h List.not_mem_nil⟩⟩⟩⟩⟩⟩⟩⟩⟩⟩⟩⟩⟩⟩⟩⟩⟩⟩⟩⟩
set_option maxRecDepth 20000 in
theorem c_X9_add (l : Launch) (D : va_G) (ids : Nat → ClassId) : oMT l D ids yX9_add cX9_add 8 none 1 24 0 0 T_X9_add := oMet l D ids tb_X9_add (by decide) (fun p e s m args below meth c b Q C hr hlk hnm => oTab_all (tl_X9_add_0 ++ (tl_X9_add_1 ++ (tl_X9_add_2 ++ (tl_X9_add_3)))) (List.forall_mem_append.mpr ⟨sn_X9_add_0 C hr hlk hnm, List.forall_mem_append.mpr ⟨sn_X9_add_1 C hr hlk hnm, List.forall_mem_append.mpr ⟨sn_X9_add_2 C hr hlk hnm, sn_X9_add_3 C hr hlk hnm⟩⟩⟩))
theorem dX0_pitch_0 : decode cX0_pitch 0 = .ok (.aload_n 1, 1) := by decide +kernel
theorem dX0_pitch_1 : decode cX0_pitch 1 = .ok (.getfield 18, 3) := by decide +kernel
theorem dX0_pitch_4 : decode cX0_pitch 4 = .ok (.iconst 0, 1) := by decide +kernel
theorem dX0_pitch_5 : decode cX0_pitch 5 = .ok (.putfield 24, 3) := by decide +kernel
theorem dX0_pitch_8 : decode cX0_pitch 8 = .ok (.iconst 0, 1) := by decide +kernel
theorem dX0_pitch_9 : decode cX0_pitch 9 = .ok (.istore 5, 2) := by decide +kernel
theorem dX0_pitch_11 : decode cX0_pitch 11 = .ok (.iload 5, 2) := by decide +kernel
theorem dX0_pitch_13 : decode cX0_pitch 13 = .ok (.iload 4, 2) := by decide +kernel
theorem dX0_pitch_15 : decode cX0_pitch 15 = .ok (.if_icmp .ge 28, 3) := by decide +kernel
theorem dX0_pitch_18 : decode cX0_pitch 18 = .ok (.aload_n 1, 1) := by decide +kernel
theorem dX0_pitch_19 : decode cX0_pitch 19 = .ok (.getfield 18, 3) := by decide +kernel
theorem dX0_pitch_22 : decode cX0_pitch 22 = .ok (.aload_n 2, 1) := by decide +kernel
theorem dX0_pitch_23 : decode cX0_pitch 23 = .ok (.aload_n 3, 1) := by decide +kernel
theorem dX0_pitch_24 : decode cX0_pitch 24 = .ok (.aload_n 0, 1) := by decide +kernel
theorem dX0_pitch_25 : decode cX0_pitch 25 = .ok (.getfield 15, 3) := by decide +kernel
theorem dX0_pitch_28 : decode cX0_pitch 28 = .ok (.aload_n 0, 1) := by decide +kernel
theorem dX0_pitch_29 : decode cX0_pitch 29 = .ok (.getfield 15, 3) := by decide +kernel
theorem dX0_pitch_32 : decode cX0_pitch 32 = .ok (.bipush 10, 2) := by decide +kernel
theorem dX0_pitch_34 : decode cX0_pitch 34 = .ok (.invokevirtual 29, 3) := by decide +kernel
theorem dX0_pitch_37 : decode cX0_pitch 37 = .ok (.iinc 5 1, 3) := by decide +kernel
theorem dX0_pitch_40 : decode cX0_pitch 40 = .ok (.goto (-29), 3) := by decide +kernel
theorem dX0_pitch_43 : decode cX0_pitch 43 = .ok (.return_, 1) := by decide +kernel
abbrev tl_X0_pitch_0 : List (Nat × oOp) := [(0, o_ald 1 1), (1, o_getR [2] 0 4), (4, o_push (vI 0) 5), (5, o_putI [9] 3 8), (8, o_push (vI 0) 9), (9, o_ist 5 11), (11, o_ild 5 13), (13, o_ild 4 15), (15, o_ic pGe 43 18), (18, o_ald 1 19), (19, o_getR [2] 0 22), (22, o_ald 2 23), (23, o_ald 3 24), (24, o_ald 0 25), (25, o_getI [0, 1, 3, 5, 10] 1 28), (28, o_ald 0 29), (29, o_getI [0, 1, 3, 5, 10] 1 32), (32, o_push (vI 10) 34), (34, o_callo T_X9_add 9 5 0 0 0 0 37), (37, o_inc 5 1 40), (40, o_go 11), (43, o_ret0 0 0)]
set_option maxRecDepth 20000 in
def tb_X0_pitch : Nat → oOp := oTab [(0, o_ald 1 1), (1, o_getR [2] 0 4), (4, o_push (vI 0) 5), (5, o_putI [9] 3 8), (8, o_push (vI 0) 9), (9, o_ist 5 11), (11, o_ild 5 13), (13, o_ild 4 15), (15, o_ic pGe 43 18), (18, o_ald 1 19), (19, o_getR [2] 0 22), (22, o_ald 2 23), (23, o_ald 3 24), (24, o_ald 0 25), (25, o_getI [0, 1, 3, 5, 10] 1 28), (28, o_ald 0 29), (29, o_getI [0, 1, 3, 5, 10] 1 32), (32, o_push (vI 10) 34), (34, o_callo T_X9_add 9 5 0 0 0 0 37), (37, o_inc 5 1 40), (40, o_go 11), (43, o_ret0 0 0)]
def T_X0_pitch : List oA → oM → oQ → Prop := oT tb_X0_pitch 6
set_option maxRecDepth 20000 in
theorem sn_X0_pitch_0 {p : Program} {l : Launch} {e : Env} {s : State} {m : MethodId} {args : Array Value} {below : List Frame} {meth : Method} {c : Code} {D : va_G} {ids : Nat → ClassId} {b : Nat} {Q : oQ} (C : oCx p s m args c cX0_pitch 6 (yX0_pitch).cls D ids b) (hr : meth.sig.returnType = none) (hlk : meth.locks = false) (hnm : meth.name = (yX0_pitch).name) : ∀ q ∈ tl_X0_pitch_0, oSn (oW p l e (oRm 2 51 0 0) s m args below meth c 6 D ids b (oMQ D ids b below Q args s 0 0)) Q q.1 q.2 := List.forall_mem_cons.mpr ⟨so_aload_n C 1 rfl dX0_pitch_0, List.forall_mem_cons.mpr ⟨so_getR C [2] 0 (fd_RX0_18_2 C) (ft_2_0) dX0_pitch_1, List.forall_mem_cons.mpr ⟨so_iconst C 0 rfl dX0_pitch_4, List.forall_mem_cons.mpr ⟨so_putI C [9] 3 (fd_RX0_24_9 C) (fn_9_3) (by decide) dX0_pitch_5, List.forall_mem_cons.mpr ⟨so_iconst C 0 rfl dX0_pitch_8, List.forall_mem_cons.mpr ⟨so_istore C 5 (by decide) dX0_pitch_9, List.forall_mem_cons.mpr ⟨so_iload C 5 dX0_pitch_11, List.forall_mem_cons.mpr ⟨so_iload C 4 dX0_pitch_13, List.forall_mem_cons.mpr ⟨so_ic_ge C (by decide) dX0_pitch_15, List.forall_mem_cons.mpr ⟨so_aload_n C 1 rfl dX0_pitch_18, List.forall_mem_cons.mpr ⟨so_getR C [2] 0 (fd_RX0_18_2 C) (ft_2_0) dX0_pitch_19, List.forall_mem_cons.mpr ⟨so_aload_n C 2 rfl dX0_pitch_22, List.forall_mem_cons.mpr ⟨so_aload_n C 3 rfl dX0_pitch_23, List.forall_mem_cons.mpr ⟨so_aload_n C 0 rfl dX0_pitch_24, List.forall_mem_cons.mpr ⟨so_getI C [0, 1, 3, 5, 10] 1 (fd_RX0_15_0_1_3_5_10 C) (by decide) dX0_pitch_25, List.forall_mem_cons.mpr ⟨so_aload_n C 0 rfl dX0_pitch_28, List.forall_mem_cons.mpr ⟨so_getI C [0, 1, 3, 5, 10] 1 (fd_RX0_15_0_1_3_5_10 C) (by decide) dX0_pitch_29, List.forall_mem_cons.mpr ⟨so_bipush C 10 rfl dX0_pitch_32, List.forall_mem_cons.mpr ⟨so_callV C (y := yX9_add) 9 5 0 0 (RX9, TX9, 4) (by decide) rfl rfl ⟨Nat.le_refl _, Nat.le_refl _⟩ (c_X9_add l D ids) kw_573 kw_673 kw_571 kw_572 kw_8 hy_X9_add ⟨Nat.le_of_ble_eq_true rfl, Nat.le_of_ble_eq_true rfl⟩ dX0_pitch_34, List.forall_mem_cons.mpr ⟨so_iinc C 5 1 (by decide) dX0_pitch_37, List.forall_mem_cons.mpr ⟨so_goto C (by decide) dX0_pitch_40, List.forall_mem_cons.mpr ⟨so_ret0 C 0 0 hr hlk dX0_pitch_43, fun _ h => absurd h List.not_mem_nil⟩⟩⟩⟩⟩⟩⟩⟩⟩⟩⟩⟩⟩⟩⟩⟩⟩⟩⟩⟩⟩⟩
set_option maxRecDepth 20000 in
theorem c_X0_pitch (l : Launch) (D : va_G) (ids : Nat → ClassId) : oMT l D ids yX0_pitch cX0_pitch 6 none 2 51 0 0 T_X0_pitch := oMet l D ids tb_X0_pitch (by decide) (fun p e s m args below meth c b Q C hr hlk hnm => oTab_all (tl_X0_pitch_0) (sn_X0_pitch_0 C hr hlk hnm))
theorem dX0_takesOneMore_0 : decode cX0_takesOneMore 0 = .ok (.aload_n 0, 1) := by decide +kernel
theorem dX0_takesOneMore_1 : decode cX0_takesOneMore 1 = .ok (.getfield 9, 3) := by decide +kernel
theorem dX0_takesOneMore_4 : decode cX0_takesOneMore 4 = .ok (.iconst 3, 1) := by decide +kernel
theorem dX0_takesOneMore_5 : decode cX0_takesOneMore 5 = .ok (.if_icmp .ge 7, 3) := by decide +kernel
theorem dX0_takesOneMore_8 : decode cX0_takesOneMore 8 = .ok (.iconst 1, 1) := by decide +kernel
theorem dX0_takesOneMore_9 : decode cX0_takesOneMore 9 = .ok (.goto 4, 3) := by decide +kernel
theorem dX0_takesOneMore_12 : decode cX0_takesOneMore 12 = .ok (.iconst 0, 1) := by decide +kernel
theorem dX0_takesOneMore_13 : decode cX0_takesOneMore 13 = .ok (.ireturn, 1) := by decide +kernel
abbrev tl_X0_takesOneMore_0 : List (Nat × oOp) := [(0, o_ald 0 1), (1, o_getI [0, 1, 3, 5, 10] 0 4), (4, o_push (vI 3) 5), (5, o_ic pGe 12 8), (8, o_push (vI 1) 9), (9, o_go 13), (12, o_push (vI 0) 13), (13, o_retz 0 0)]
set_option maxRecDepth 20000 in
def tb_X0_takesOneMore : Nat → oOp := oTab [(0, o_ald 0 1), (1, o_getI [0, 1, 3, 5, 10] 0 4), (4, o_push (vI 3) 5), (5, o_ic pGe 12 8), (8, o_push (vI 1) 9), (9, o_go 13), (12, o_push (vI 0) 13), (13, o_retz 0 0)]
def T_X0_takesOneMore : List oA → oM → oQ → Prop := oT tb_X0_takesOneMore 1
set_option maxRecDepth 20000 in
theorem sn_X0_takesOneMore_0 {p : Program} {l : Launch} {e : Env} {s : State} {m : MethodId} {args : Array Value} {below : List Frame} {meth : Method} {c : Code} {D : va_G} {ids : Nat → ClassId} {b : Nat} {Q : oQ} (C : oCx p s m args c cX0_takesOneMore 1 (yX0_takesOneMore).cls D ids b) (hr : meth.sig.returnType = (some .boolean)) (hlk : meth.locks = false) (hnm : meth.name = (yX0_takesOneMore).name) : ∀ q ∈ tl_X0_takesOneMore_0, oSn (oW p l e (oRm 0 0 0 0) s m args below meth c 1 D ids b (oMQ D ids b below Q args s 0 0)) Q q.1 q.2 := List.forall_mem_cons.mpr ⟨so_aload_n C 0 rfl dX0_takesOneMore_0, List.forall_mem_cons.mpr ⟨so_getI C [0, 1, 3, 5, 10] 0 (fd_RX0_9_0_1_3_5_10 C) (by decide) dX0_takesOneMore_1, List.forall_mem_cons.mpr ⟨so_iconst C 3 rfl dX0_takesOneMore_4, List.forall_mem_cons.mpr ⟨so_ic_ge C (by decide) dX0_takesOneMore_5, List.forall_mem_cons.mpr ⟨so_iconst C 1 rfl dX0_takesOneMore_8, List.forall_mem_cons.mpr ⟨so_goto C (by decide) dX0_takesOneMore_9, List.forall_mem_cons.mpr ⟨so_iconst C 0 rfl dX0_takesOneMore_12, List.forall_mem_cons.mpr ⟨so_retz C 0 0 hr hlk dX0_takesOneMore_13, fun _ h => absurd h List.not_mem_nil⟩⟩⟩⟩⟩⟩⟩⟩
set_option maxRecDepth 20000 in
theorem c_X0_takesOneMore (l : Launch) (D : va_G) (ids : Nat → ClassId) : oMT l D ids yX0_takesOneMore cX0_takesOneMore 1 (some .boolean) 0 0 0 0 T_X0_takesOneMore := oMet l D ids tb_X0_takesOneMore (by decide) (fun p e s m args below meth c b Q C hr hlk hnm => oTab_all (tl_X0_takesOneMore_0) (sn_X0_takesOneMore_0 C hr hlk hnm))
theorem dX10_init_0 : decode cX10_init 0 = .ok (.aload_n 0, 1) := by decide +kernel
theorem dX10_init_1 : decode cX10_init 1 = .ok (.iconst 0, 1) := by decide +kernel
theorem dX10_init_2 : decode cX10_init 2 = .ok (.iconst 0, 1) := by decide +kernel
theorem dX10_init_3 : decode cX10_init 3 = .ok (.invokespecial 3, 3) := by decide +kernel
theorem dX10_init_6 : decode cX10_init 6 = .ok (.aload_n 0, 1) := by decide +kernel
theorem dX10_init_7 : decode cX10_init 7 = .ok (.bipush 6, 2) := by decide +kernel
theorem dX10_init_9 : decode cX10_init 9 = .ok (.newarray .int, 2) := by decide +kernel
theorem dX10_init_11 : decode cX10_init 11 = .ok (.putfield 11, 3) := by decide +kernel
theorem dX10_init_14 : decode cX10_init 14 = .ok (.aload_n 0, 1) := by decide +kernel
theorem dX10_init_15 : decode cX10_init 15 = .ok (.bipush 6, 2) := by decide +kernel
theorem dX10_init_17 : decode cX10_init 17 = .ok (.newarray .int, 2) := by decide +kernel
theorem dX10_init_19 : decode cX10_init 19 = .ok (.putfield 15, 3) := by decide +kernel
theorem dX10_init_22 : decode cX10_init 22 = .ok (.aload_n 0, 1) := by decide +kernel
theorem dX10_init_23 : decode cX10_init 23 = .ok (.bipush 6, 2) := by decide +kernel
theorem dX10_init_25 : decode cX10_init 25 = .ok (.newarray .int, 2) := by decide +kernel
theorem dX10_init_27 : decode cX10_init 27 = .ok (.putfield 18, 3) := by decide +kernel
theorem dX10_init_30 : decode cX10_init 30 = .ok (.return_, 1) := by decide +kernel
abbrev tl_X10_init_0 : List (Nat × oOp) := [(0, o_ald 0 1), (1, o_push (vI 0) 2), (2, o_push (vI 0) 3), (3, o_calli T_X0_init 2 0 0 3 18 6), (6, o_ald 0 7), (7, o_push (vI 6) 9), (9, o_newa 13 3 18 11), (11, o_putR [10] 2 14), (14, o_ald 0 15), (15, o_push (vI 6) 17), (17, o_newa 13 3 18 19), (19, o_putR [10] 3 22), (22, o_ald 0 23), (23, o_push (vI 6) 25), (25, o_newa 13 3 18 27), (27, o_putR [10] 4 30), (30, o_ret0 3 18)]
set_option maxRecDepth 20000 in
def tb_X10_init : Nat → oOp := oTab [(0, o_ald 0 1), (1, o_push (vI 0) 2), (2, o_push (vI 0) 3), (3, o_calli T_X0_init 2 0 0 3 18 6), (6, o_ald 0 7), (7, o_push (vI 6) 9), (9, o_newa 13 3 18 11), (11, o_putR [10] 2 14), (14, o_ald 0 15), (15, o_push (vI 6) 17), (17, o_newa 13 3 18 19), (19, o_putR [10] 3 22), (22, o_ald 0 23), (23, o_push (vI 6) 25), (25, o_newa 13 3 18 27), (27, o_putR [10] 4 30), (30, o_ret0 3 18)]
def T_X10_init : List oA → oM → oQ → Prop := oT tb_X10_init 1
set_option maxRecDepth 20000 in
theorem sn_X10_init_0 {p : Program} {l : Launch} {e : Env} {s : State} {m : MethodId} {args : Array Value} {below : List Frame} {meth : Method} {c : Code} {D : va_G} {ids : Nat → ClassId} {b : Nat} {Q : oQ} (C : oCx p s m args c cX10_init 1 (yX10_init).cls D ids b) (hr : meth.sig.returnType = none) (hlk : meth.locks = false) (hnm : meth.name = (yX10_init).name) : ∀ q ∈ tl_X10_init_0, oSn (oW p l e (oRm 2 43 3 18) s m args below meth c 1 D ids b (oMQ D ids b below Q args s 3 18)) Q q.1 q.2 := List.forall_mem_cons.mpr ⟨so_aload_n C 0 rfl dX10_init_0, List.forall_mem_cons.mpr ⟨so_iconst C 0 rfl dX10_init_1, List.forall_mem_cons.mpr ⟨so_iconst C 0 rfl dX10_init_2, List.forall_mem_cons.mpr ⟨so_callI C (y := yX0_init) 2 3 18 ⟨Nat.le_refl _, Nat.le_refl _⟩ (c_X0_init l D ids) kw_133 kw_131 kw_132 kw_5 rfl hy_X0_init ⟨Nat.le_of_ble_eq_true rfl, Nat.le_of_ble_eq_true rfl⟩ dX10_init_3, List.forall_mem_cons.mpr ⟨so_aload_n C 0 rfl dX10_init_6, List.forall_mem_cons.mpr ⟨so_bipush C 6 rfl dX10_init_7, List.forall_mem_cons.mpr ⟨so_newa C 13 0 .int rfl 3 18 ⟨Nat.le_refl _, Nat.le_refl _⟩ (by decide) (by decide) rfl rfl (by intro n h; cases h) (by decide) kw_47 dX10_init_9, List.forall_mem_cons.mpr ⟨so_putFR C hnm [10] 2 (fd_RX10_11_10 C) (ff_10_2) ft_10_2 dX10_init_11, List.forall_mem_cons.mpr ⟨so_aload_n C 0 rfl dX10_init_14, List.forall_mem_cons.mpr ⟨so_bipush C 6 rfl dX10_init_15, List.forall_mem_cons.mpr ⟨so_newa C 13 0 .int rfl 3 18 ⟨Nat.le_refl _, Nat.le_refl _⟩ (by decide) (by decide) rfl rfl (by intro n h; cases h) (by decide) kw_47 dX10_init_17, List.forall_mem_cons.mpr ⟨so_putFR C hnm [10] 3 (fd_RX10_15_10 C) (ff_10_3) ft_10_3 dX10_init_19, List.forall_mem_cons.mpr ⟨so_aload_n C 0 rfl dX10_init_22, List.forall_mem_cons.mpr ⟨so_bipush C 6 rfl dX10_init_23, List.forall_mem_cons.mpr ⟨so_newa C 13 0 .int rfl 3 18 ⟨Nat.le_refl _, Nat.le_refl _⟩ (by decide) (by decide) rfl rfl (by intro n h; cases h) (by decide) kw_47 dX10_init_25, List.forall_mem_cons.mpr ⟨so_putFR C hnm [10] 4 (fd_RX10_18_10 C) (ff_10_4) ft_10_4 dX10_init_27, List.forall_mem_cons.mpr ⟨so_ret0 C 3 18 hr hlk dX10_init_30, fun _ h => absurd h List.not_mem_nil⟩⟩⟩⟩⟩⟩⟩⟩⟩⟩⟩⟩⟩⟩⟩⟩⟩
set_option maxRecDepth 20000 in
theorem c_X10_init (l : Launch) (D : va_G) (ids : Nat → ClassId) : oMT l D ids yX10_init cX10_init 1 none 2 43 3 18 T_X10_init := oMet l D ids tb_X10_init (by decide) (fun p e s m args below meth c b Q C hr hlk hnm => oTab_all (tl_X10_init_0) (sn_X10_init_0 C hr hlk hnm))
theorem dX10_kind_0 : decode cX10_kind 0 = .ok (.iconst 4, 1) := by decide +kernel
theorem dX10_kind_1 : decode cX10_kind 1 = .ok (.ireturn, 1) := by decide +kernel
abbrev tl_X10_kind_0 : List (Nat × oOp) := [(0, o_push (vI 4) 1), (1, o_reti 0 0)]
set_option maxRecDepth 20000 in
def tb_X10_kind : Nat → oOp := oTab [(0, o_push (vI 4) 1), (1, o_reti 0 0)]
def T_X10_kind : List oA → oM → oQ → Prop := oT tb_X10_kind 1
set_option maxRecDepth 20000 in
theorem sn_X10_kind_0 {p : Program} {l : Launch} {e : Env} {s : State} {m : MethodId} {args : Array Value} {below : List Frame} {meth : Method} {c : Code} {D : va_G} {ids : Nat → ClassId} {b : Nat} {Q : oQ} (C : oCx p s m args c cX10_kind 1 (yX10_kind).cls D ids b) (hr : meth.sig.returnType = (some .int)) (hlk : meth.locks = false) (hnm : meth.name = (yX10_kind).name) : ∀ q ∈ tl_X10_kind_0, oSn (oW p l e (oRm 0 0 0 0) s m args below meth c 1 D ids b (oMQ D ids b below Q args s 0 0)) Q q.1 q.2 := List.forall_mem_cons.mpr ⟨so_iconst C 4 rfl dX10_kind_0, List.forall_mem_cons.mpr ⟨so_reti C 0 0 hr hlk dX10_kind_1, fun _ h => absurd h List.not_mem_nil⟩⟩
set_option maxRecDepth 20000 in
theorem c_X10_kind (l : Launch) (D : va_G) (ids : Nat → ClassId) : oMT l D ids yX10_kind cX10_kind 1 (some .int) 0 0 0 0 T_X10_kind := oMet l D ids tb_X10_kind (by decide) (fun p e s m args below meth c b Q C hr hlk hnm => oTab_all (tl_X10_kind_0) (sn_X10_kind_0 C hr hlk hnm))
theorem dX10_pitch_0 : decode cX10_pitch 0 = .ok (.aload_n 1, 1) := by decide +kernel
theorem dX10_pitch_1 : decode cX10_pitch 1 = .ok (.getfield 49, 3) := by decide +kernel
theorem dX10_pitch_4 : decode cX10_pitch 4 = .ok (.iconst 0, 1) := by decide +kernel
theorem dX10_pitch_5 : decode cX10_pitch 5 = .ok (.putfield 55, 3) := by decide +kernel
theorem dX10_pitch_8 : decode cX10_pitch 8 = .ok (.iconst 0, 1) := by decide +kernel
theorem dX10_pitch_9 : decode cX10_pitch 9 = .ok (.istore 5, 2) := by decide +kernel
theorem dX10_pitch_11 : decode cX10_pitch 11 = .ok (.iload 5, 2) := by decide +kernel
theorem dX10_pitch_13 : decode cX10_pitch 13 = .ok (.aload_n 0, 1) := by decide +kernel
theorem dX10_pitch_14 : decode cX10_pitch 14 = .ok (.getfield 27, 3) := by decide +kernel
theorem dX10_pitch_17 : decode cX10_pitch 17 = .ok (.if_icmp .ge 39, 3) := by decide +kernel
theorem dX10_pitch_20 : decode cX10_pitch 20 = .ok (.aload_n 1, 1) := by decide +kernel
theorem dX10_pitch_21 : decode cX10_pitch 21 = .ok (.getfield 49, 3) := by decide +kernel
theorem dX10_pitch_24 : decode cX10_pitch 24 = .ok (.aload_n 2, 1) := by decide +kernel
theorem dX10_pitch_25 : decode cX10_pitch 25 = .ok (.aload_n 3, 1) := by decide +kernel
theorem dX10_pitch_26 : decode cX10_pitch 26 = .ok (.aload_n 0, 1) := by decide +kernel
theorem dX10_pitch_27 : decode cX10_pitch 27 = .ok (.getfield 11, 3) := by decide +kernel
theorem dX10_pitch_30 : decode cX10_pitch 30 = .ok (.iload 5, 2) := by decide +kernel
theorem dX10_pitch_32 : decode cX10_pitch 32 = .ok (.iaload, 1) := by decide +kernel
theorem dX10_pitch_33 : decode cX10_pitch 33 = .ok (.aload_n 0, 1) := by decide +kernel
theorem dX10_pitch_34 : decode cX10_pitch 34 = .ok (.getfield 15, 3) := by decide +kernel
theorem dX10_pitch_37 : decode cX10_pitch 37 = .ok (.iload 5, 2) := by decide +kernel
theorem dX10_pitch_39 : decode cX10_pitch 39 = .ok (.iaload, 1) := by decide +kernel
theorem dX10_pitch_40 : decode cX10_pitch 40 = .ok (.aload_n 0, 1) := by decide +kernel
theorem dX10_pitch_41 : decode cX10_pitch 41 = .ok (.getfield 18, 3) := by decide +kernel
theorem dX10_pitch_44 : decode cX10_pitch 44 = .ok (.iload 5, 2) := by decide +kernel
theorem dX10_pitch_46 : decode cX10_pitch 46 = .ok (.iaload, 1) := by decide +kernel
theorem dX10_pitch_47 : decode cX10_pitch 47 = .ok (.invokevirtual 58, 3) := by decide +kernel
theorem dX10_pitch_50 : decode cX10_pitch 50 = .ok (.iinc 5 1, 3) := by decide +kernel
theorem dX10_pitch_53 : decode cX10_pitch 53 = .ok (.goto (-42), 3) := by decide +kernel
theorem dX10_pitch_56 : decode cX10_pitch 56 = .ok (.return_, 1) := by decide +kernel
abbrev tl_X10_pitch_0 : List (Nat × oOp) := [(0, o_ald 1 1), (1, o_getR [2] 0 4), (4, o_push (vI 0) 5), (5, o_putI [9] 3 8), (8, o_push (vI 0) 9), (9, o_ist 5 11), (11, o_ild 5 13), (13, o_ald 0 14), (14, o_getI [10] 5 17), (17, o_ic pGe 56 20), (20, o_ald 1 21), (21, o_getR [2] 0 24), (24, o_ald 2 25), (25, o_ald 3 26), (26, o_ald 0 27), (27, o_getR [10] 2 30), (30, o_ild 5 32), (32, o_xald 13 33), (33, o_ald 0 34), (34, o_getR [10] 3 37), (37, o_ild 5 39), (39, o_xald 13 40), (40, o_ald 0 41), (41, o_getR [10] 4 44)]
abbrev tl_X10_pitch_1 : List (Nat × oOp) := [(44, o_ild 5 46), (46, o_xald 13 47), (47, o_callo T_X9_add 9 5 0 0 0 0 50), (50, o_inc 5 1 53), (53, o_go 11), (56, o_ret0 0 0)]
set_option maxRecDepth 20000 in
def tb_X10_pitch : Nat → oOp := oTab [(0, o_ald 1 1), (1, o_getR [2] 0 4), (4, o_push (vI 0) 5), (5, o_putI [9] 3 8), (8, o_push (vI 0) 9), (9, o_ist 5 11), (11, o_ild 5 13), (13, o_ald 0 14), (14, o_getI [10] 5 17), (17, o_ic pGe 56 20), (20, o_ald 1 21), (21, o_getR [2] 0 24), (24, o_ald 2 25), (25, o_ald 3 26), (26, o_ald 0 27), (27, o_getR [10] 2 30), (30, o_ild 5 32), (32, o_xald 13 33), (33, o_ald 0 34), (34, o_getR [10] 3 37), (37, o_ild 5 39), (39, o_xald 13 40), (40, o_ald 0 41), (41, o_getR [10] 4 44), (44, o_ild 5 46), (46, o_xald 13 47), (47, o_callo T_X9_add 9 5 0 0 0 0 50), (50, o_inc 5 1 53), (53, o_go 11), (56, o_ret0 0 0)]
def T_X10_pitch : List oA → oM → oQ → Prop := oT tb_X10_pitch 6
set_option maxRecDepth 20000 in
theorem sn_X10_pitch_0 {p : Program} {l : Launch} {e : Env} {s : State} {m : MethodId} {args : Array Value} {below : List Frame} {meth : Method} {c : Code} {D : va_G} {ids : Nat → ClassId} {b : Nat} {Q : oQ} (C : oCx p s m args c cX10_pitch 6 (yX10_pitch).cls D ids b) (hr : meth.sig.returnType = none) (hlk : meth.locks = false) (hnm : meth.name = (yX10_pitch).name) : ∀ q ∈ tl_X10_pitch_0, oSn (oW p l e (oRm 2 51 0 0) s m args below meth c 6 D ids b (oMQ D ids b below Q args s 0 0)) Q q.1 q.2 := List.forall_mem_cons.mpr ⟨so_aload_n C 1 rfl dX10_pitch_0, List.forall_mem_cons.mpr ⟨so_getR C [2] 0 (fd_RX10_49_2 C) (ft_2_0) dX10_pitch_1, List.forall_mem_cons.mpr ⟨so_iconst C 0 rfl dX10_pitch_4, List.forall_mem_cons.mpr ⟨so_putI C [9] 3 (fd_RX10_55_9 C) (fn_9_3) (by decide) dX10_pitch_5, List.forall_mem_cons.mpr ⟨so_iconst C 0 rfl dX10_pitch_8, List.forall_mem_cons.mpr ⟨so_istore C 5 (by decide) dX10_pitch_9, List.forall_mem_cons.mpr ⟨so_iload C 5 dX10_pitch_11, List.forall_mem_cons.mpr ⟨so_aload_n C 0 rfl dX10_pitch_13, List.forall_mem_cons.mpr ⟨so_getI C [10] 5 (fd_RX10_27_10 C) (by decide) dX10_pitch_14, List.forall_mem_cons.mpr ⟨so_ic_ge C (by decide) dX10_pitch_17, List.forall_mem_cons.mpr ⟨so_aload_n C 1 rfl dX10_pitch_20, List.forall_mem_cons.mpr ⟨so_getR C [2] 0 (fd_RX10_49_2 C) (ft_2_0) dX10_pitch_21, List.forall_mem_cons.mpr ⟨so_aload_n C 2 rfl dX10_pitch_24, List.forall_mem_cons.mpr ⟨so_aload_n C 3 rfl dX10_pitch_25, List.forall_mem_cons.mpr ⟨so_aload_n C 0 rfl dX10_pitch_26, List.forall_mem_cons.mpr ⟨so_getR C [10] 2 (fd_RX10_11_10 C) (ft_10_2) dX10_pitch_27, List.forall_mem_cons.mpr ⟨so_iload C 5 dX10_pitch_30, List.forall_mem_cons.mpr ⟨so_iald C dX10_pitch_32, List.forall_mem_cons.mpr ⟨so_aload_n C 0 rfl dX10_pitch_33, List.forall_mem_cons.mpr ⟨so_getR C [10] 3 (fd_RX10_15_10 C) (ft_10_3) dX10_pitch_34, List.forall_mem_cons.mpr ⟨so_iload C 5 dX10_pitch_37, List.forall_mem_cons.mpr ⟨so_iald C dX10_pitch_39, List.forall_mem_cons.mpr ⟨so_aload_n C 0 rfl dX10_pitch_40, List.forall_mem_cons.mpr ⟨so_getR C [10] 4 (fd_RX10_18_10 C) (ft_10_4) dX10_pitch_41, fun _ h => absurd h List.not_mem_nil⟩⟩⟩⟩⟩⟩⟩⟩⟩⟩⟩⟩⟩⟩⟩⟩⟩⟩⟩⟩⟩⟩⟩⟩
set_option maxRecDepth 20000 in
theorem sn_X10_pitch_1 {p : Program} {l : Launch} {e : Env} {s : State} {m : MethodId} {args : Array Value} {below : List Frame} {meth : Method} {c : Code} {D : va_G} {ids : Nat → ClassId} {b : Nat} {Q : oQ} (C : oCx p s m args c cX10_pitch 6 (yX10_pitch).cls D ids b) (hr : meth.sig.returnType = none) (hlk : meth.locks = false) (hnm : meth.name = (yX10_pitch).name) : ∀ q ∈ tl_X10_pitch_1, oSn (oW p l e (oRm 2 51 0 0) s m args below meth c 6 D ids b (oMQ D ids b below Q args s 0 0)) Q q.1 q.2 := List.forall_mem_cons.mpr ⟨so_iload C 5 dX10_pitch_44, List.forall_mem_cons.mpr ⟨so_iald C dX10_pitch_46, List.forall_mem_cons.mpr ⟨so_callV C (y := yX9_add) 9 5 0 0 (RX9, TX9, 4) (by decide) rfl rfl ⟨Nat.le_refl _, Nat.le_refl _⟩ (c_X9_add l D ids) kw_573 kw_671 kw_571 kw_572 kw_8 hy_X9_add ⟨Nat.le_of_ble_eq_true rfl, Nat.le_of_ble_eq_true rfl⟩ dX10_pitch_47, List.forall_mem_cons.mpr ⟨so_iinc C 5 1 (by decide) dX10_pitch_50, List.forall_mem_cons.mpr ⟨so_goto C (by decide) dX10_pitch_53, List.forall_mem_cons.mpr ⟨so_ret0 C 0 0 hr hlk dX10_pitch_56, fun _ h => absurd h List.not_mem_nil⟩⟩⟩⟩⟩⟩
set_option maxRecDepth 20000 in
theorem c_X10_pitch (l : Launch) (D : va_G) (ids : Nat → ClassId) : oMT l D ids yX10_pitch cX10_pitch 6 none 2 51 0 0 T_X10_pitch := oMet l D ids tb_X10_pitch (by decide) (fun p e s m args below meth c b Q C hr hlk hnm => oTab_all (tl_X10_pitch_0 ++ (tl_X10_pitch_1)) (List.forall_mem_append.mpr ⟨sn_X10_pitch_0 C hr hlk hnm, sn_X10_pitch_1 C hr hlk hnm⟩))
theorem dX8_look_0 : decode cX8_look 0 = .ok (.aload_n 0, 1) := by decide +kernel
theorem dX8_look_1 : decode cX8_look 1 = .ok (.getfield 19, 3) := by decide +kernel
theorem dX8_look_4 : decode cX8_look 4 = .ok (.ifCond .lt 26, 3) := by decide +kernel
theorem dX8_look_7 : decode cX8_look 7 = .ok (.aload_n 0, 1) := by decide +kernel
theorem dX8_look_8 : decode cX8_look 8 = .ok (.getfield 19, 3) := by decide +kernel
theorem dX8_look_11 : decode cX8_look 11 = .ok (.aload_n 0, 1) := by decide +kernel
theorem dX8_look_12 : decode cX8_look 12 = .ok (.getfield 15, 3) := by decide +kernel
theorem dX8_look_15 : decode cX8_look 15 = .ok (.if_icmp .ge 15, 3) := by decide +kernel
theorem dX8_look_18 : decode cX8_look 18 = .ok (.aload_n 0, 1) := by decide +kernel
theorem dX8_look_19 : decode cX8_look 19 = .ok (.getfield 11, 3) := by decide +kernel
theorem dX8_look_22 : decode cX8_look 22 = .ok (.aload_n 0, 1) := by decide +kernel
theorem dX8_look_23 : decode cX8_look 23 = .ok (.getfield 19, 3) := by decide +kernel
theorem dX8_look_26 : decode cX8_look 26 = .ok (.iaload, 1) := by decide +kernel
theorem dX8_look_27 : decode cX8_look 27 = .ok (.goto 4, 3) := by decide +kernel
theorem dX8_look_30 : decode cX8_look 30 = .ok (.iconst 0, 1) := by decide +kernel
theorem dX8_look_31 : decode cX8_look 31 = .ok (.ireturn, 1) := by decide +kernel
abbrev tl_X8_look_0 : List (Nat × oOp) := [(0, o_ald 0 1), (1, o_getI [8] 2 4), (4, o_if zLt 30 7), (7, o_ald 0 8), (8, o_getI [8] 2 11), (11, o_ald 0 12), (12, o_getI [8] 1 15), (15, o_ic pGe 30 18), (18, o_ald 0 19), (19, o_getR [8] 0 22), (22, o_ald 0 23), (23, o_getI [8] 2 26), (26, o_xald 13 27), (27, o_go 31), (30, o_push (vI 0) 31), (31, o_reti 0 0)]
set_option maxRecDepth 20000 in
def tb_X8_look : Nat → oOp := oTab [(0, o_ald 0 1), (1, o_getI [8] 2 4), (4, o_if zLt 30 7), (7, o_ald 0 8), (8, o_getI [8] 2 11), (11, o_ald 0 12), (12, o_getI [8] 1 15), (15, o_ic pGe 30 18), (18, o_ald 0 19), (19, o_getR [8] 0 22), (22, o_ald 0 23), (23, o_getI [8] 2 26), (26, o_xald 13 27), (27, o_go 31), (30, o_push (vI 0) 31), (31, o_reti 0 0)]
def T_X8_look : List oA → oM → oQ → Prop := oT tb_X8_look 1
set_option maxRecDepth 20000 in
theorem sn_X8_look_0 {p : Program} {l : Launch} {e : Env} {s : State} {m : MethodId} {args : Array Value} {below : List Frame} {meth : Method} {c : Code} {D : va_G} {ids : Nat → ClassId} {b : Nat} {Q : oQ} (C : oCx p s m args c cX8_look 1 (yX8_look).cls D ids b) (hr : meth.sig.returnType = (some .int)) (hlk : meth.locks = false) (hnm : meth.name = (yX8_look).name) : ∀ q ∈ tl_X8_look_0, oSn (oW p l e (oRm 0 0 0 0) s m args below meth c 1 D ids b (oMQ D ids b below Q args s 0 0)) Q q.1 q.2 := List.forall_mem_cons.mpr ⟨so_aload_n C 0 rfl dX8_look_0, List.forall_mem_cons.mpr ⟨so_getI C [8] 2 (fd_RX8_19_8 C) (by decide) dX8_look_1, List.forall_mem_cons.mpr ⟨so_if_lt C (by decide) dX8_look_4, List.forall_mem_cons.mpr ⟨so_aload_n C 0 rfl dX8_look_7, List.forall_mem_cons.mpr ⟨so_getI C [8] 2 (fd_RX8_19_8 C) (by decide) dX8_look_8, List.forall_mem_cons.mpr ⟨so_aload_n C 0 rfl dX8_look_11, List.forall_mem_cons.mpr ⟨so_getI C [8] 1 (fd_RX8_15_8 C) (by decide) dX8_look_12, List.forall_mem_cons.mpr ⟨so_ic_ge C (by decide) dX8_look_15, List.forall_mem_cons.mpr ⟨so_aload_n C 0 rfl dX8_look_18, List.forall_mem_cons.mpr ⟨so_getR C [8] 0 (fd_RX8_11_8 C) (ft_8_0) dX8_look_19, List.forall_mem_cons.mpr ⟨so_aload_n C 0 rfl dX8_look_22, List.forall_mem_cons.mpr ⟨so_getI C [8] 2 (fd_RX8_19_8 C) (by decide) dX8_look_23, List.forall_mem_cons.mpr ⟨so_iald C dX8_look_26, List.forall_mem_cons.mpr ⟨so_goto C (by decide) dX8_look_27, List.forall_mem_cons.mpr ⟨so_iconst C 0 rfl dX8_look_30, List.forall_mem_cons.mpr ⟨so_reti C 0 0 hr hlk dX8_look_31, fun _ h => absurd h List.not_mem_nil⟩⟩⟩⟩⟩⟩⟩⟩⟩⟩⟩⟩⟩⟩⟩⟩
set_option maxRecDepth 20000 in
theorem c_X8_look (l : Launch) (D : va_G) (ids : Nat → ClassId) : oMT l D ids yX8_look cX8_look 1 (some .int) 0 0 0 0 T_X8_look := oMet l D ids tb_X8_look (by decide) (fun p e s m args below meth c b Q C hr hlk hnm => oTab_all (tl_X8_look_0) (sn_X8_look_0 C hr hlk hnm))
theorem dX8_take_0 : decode cX8_take 0 = .ok (.aload_n 0, 1) := by decide +kernel
theorem dX8_take_1 : decode cX8_take 1 = .ok (.invokevirtual 22, 3) := by decide +kernel
theorem dX8_take_4 : decode cX8_take 4 = .ok (.iload_n 1, 1) := by decide +kernel
theorem dX8_take_5 : decode cX8_take 5 = .ok (.if_icmp .eq 5, 3) := by decide +kernel
theorem dX8_take_8 : decode cX8_take 8 = .ok (.iconst 0, 1) := by decide +kernel
theorem dX8_take_9 : decode cX8_take 9 = .ok (.ireturn, 1) := by decide +kernel
theorem dX8_take_10 : decode cX8_take 10 = .ok (.aload_n 0, 1) := by decide +kernel
theorem dX8_take_11 : decode cX8_take 11 = .ok (.dup, 1) := by decide +kernel
theorem dX8_take_12 : decode cX8_take 12 = .ok (.getfield 19, 3) := by decide +kernel
theorem dX8_take_15 : decode cX8_take 15 = .ok (.iconst 1, 1) := by decide +kernel
theorem dX8_take_16 : decode cX8_take 16 = .ok (.iadd, 1) := by decide +kernel
theorem dX8_take_17 : decode cX8_take 17 = .ok (.putfield 19, 3) := by decide +kernel
theorem dX8_take_20 : decode cX8_take 20 = .ok (.iconst 1, 1) := by decide +kernel
theorem dX8_take_21 : decode cX8_take 21 = .ok (.ireturn, 1) := by decide +kernel
abbrev tl_X8_take_0 : List (Nat × oOp) := [(0, o_ald 0 1), (1, o_callo T_X8_look 8 0 0 0 0 0 4), (4, o_ild 1 5), (5, o_ic pEq 10 8), (8, o_push (vI 0) 9), (9, o_retz 0 0), (10, o_ald 0 11), (11, o_dup 12), (12, o_getI [8] 2 15), (15, o_push (vI 1) 16), (16, o_ib fAdd 17), (17, o_putI [8] 2 20), (20, o_push (vI 1) 21), (21, o_retz 0 0)]
set_option maxRecDepth 20000 in
def tb_X8_take : Nat → oOp := oTab [(0, o_ald 0 1), (1, o_callo T_X8_look 8 0 0 0 0 0 4), (4, o_ild 1 5), (5, o_ic pEq 10 8), (8, o_push (vI 0) 9), (9, o_retz 0 0), (10, o_ald 0 11), (11, o_dup 12), (12, o_getI [8] 2 15), (15, o_push (vI 1) 16), (16, o_ib fAdd 17), (17, o_putI [8] 2 20), (20, o_push (vI 1) 21), (21, o_retz 0 0)]
def T_X8_take : List oA → oM → oQ → Prop := oT tb_X8_take 2
set_option maxRecDepth 20000 in
theorem sn_X8_take_0 {p : Program} {l : Launch} {e : Env} {s : State} {m : MethodId} {args : Array Value} {below : List Frame} {meth : Method} {c : Code} {D : va_G} {ids : Nat → ClassId} {b : Nat} {Q : oQ} (C : oCx p s m args c cX8_take 2 (yX8_take).cls D ids b) (hr : meth.sig.returnType = (some .boolean)) (hlk : meth.locks = false) (hnm : meth.name = (yX8_take).name) : ∀ q ∈ tl_X8_take_0, oSn (oW p l e (oRm 1 20 0 0) s m args below meth c 2 D ids b (oMQ D ids b below Q args s 0 0)) Q q.1 q.2 := List.forall_mem_cons.mpr ⟨so_aload_n C 0 rfl dX8_take_0, List.forall_mem_cons.mpr ⟨so_callV C (y := yX8_look) 8 0 0 0 (RX8, TX8, 3) (by decide) rfl rfl ⟨Nat.le_refl _, Nat.le_refl _⟩ (c_X8_look l D ids) kw_378 kw_375 kw_376 kw_377 kw_2 hy_X8_look ⟨Nat.le_of_ble_eq_true rfl, Nat.le_of_ble_eq_true rfl⟩ dX8_take_1, List.forall_mem_cons.mpr ⟨so_iload_n C 1 rfl dX8_take_4, List.forall_mem_cons.mpr ⟨so_ic_eq C (by decide) dX8_take_5, List.forall_mem_cons.mpr ⟨so_iconst C 0 rfl dX8_take_8, List.forall_mem_cons.mpr ⟨so_retz C 0 0 hr hlk dX8_take_9, List.forall_mem_cons.mpr ⟨so_aload_n C 0 rfl dX8_take_10, List.forall_mem_cons.mpr ⟨so_dup C dX8_take_11, List.forall_mem_cons.mpr ⟨so_getI C [8] 2 (fd_RX8_19_8 C) (by decide) dX8_take_12, List.forall_mem_cons.mpr ⟨so_iconst C 1 rfl dX8_take_15, List.forall_mem_cons.mpr ⟨so_iadd C dX8_take_16, List.forall_mem_cons.mpr ⟨so_putI C [8] 2 (fd_RX8_19_8 C) (fn_8_2) (by decide) dX8_take_17, List.forall_mem_cons.mpr ⟨so_iconst C 1 rfl dX8_take_20, List.forall_mem_cons.mpr ⟨so_retz C 0 0 hr hlk dX8_take_21, fun _ h => absurd h List.not_mem_nil⟩⟩⟩⟩⟩⟩⟩⟩⟩⟩⟩⟩⟩⟩
set_option maxRecDepth 20000 in
theorem c_X8_take (l : Launch) (D : va_G) (ids : Nat → ClassId) : oMT l D ids yX8_take cX8_take 2 (some .boolean) 1 20 0 0 T_X8_take := oMet l D ids tb_X8_take (by decide) (fun p e s m args below meth c b Q C hr hlk hnm => oTab_all (tl_X8_take_0) (sn_X8_take_0 C hr hlk hnm))
theorem dX8_digit_0 : decode cX8_digit 0 = .ok (.aload_n 0, 1) := by decide +kernel
theorem dX8_digit_1 : decode cX8_digit 1 = .ok (.invokevirtual 22, 3) := by decide +kernel
theorem dX8_digit_4 : decode cX8_digit 4 = .ok (.bipush 48, 2) := by decide +kernel
theorem dX8_digit_6 : decode cX8_digit 6 = .ok (.isub, 1) := by decide +kernel
theorem dX8_digit_7 : decode cX8_digit 7 = .ok (.istore_n 3, 1) := by decide +kernel
theorem dX8_digit_8 : decode cX8_digit 8 = .ok (.iload_n 3, 1) := by decide +kernel
theorem dX8_digit_9 : decode cX8_digit 9 = .ok (.iload_n 1, 1) := by decide +kernel
theorem dX8_digit_10 : decode cX8_digit 10 = .ok (.if_icmp .lt 8, 3) := by decide +kernel
theorem dX8_digit_13 : decode cX8_digit 13 = .ok (.iload_n 3, 1) := by decide +kernel
theorem dX8_digit_14 : decode cX8_digit 14 = .ok (.iload_n 2, 1) := by decide +kernel
theorem dX8_digit_15 : decode cX8_digit 15 = .ok (.if_icmp .le 5, 3) := by decide +kernel
theorem dX8_digit_18 : decode cX8_digit 18 = .ok (.iconst (-1), 1) := by decide +kernel
theorem dX8_digit_19 : decode cX8_digit 19 = .ok (.ireturn, 1) := by decide +kernel
theorem dX8_digit_20 : decode cX8_digit 20 = .ok (.aload_n 0, 1) := by decide +kernel
theorem dX8_digit_21 : decode cX8_digit 21 = .ok (.dup, 1) := by decide +kernel
theorem dX8_digit_22 : decode cX8_digit 22 = .ok (.getfield 19, 3) := by decide +kernel
theorem dX8_digit_25 : decode cX8_digit 25 = .ok (.iconst 1, 1) := by decide +kernel
theorem dX8_digit_26 : decode cX8_digit 26 = .ok (.iadd, 1) := by decide +kernel
theorem dX8_digit_27 : decode cX8_digit 27 = .ok (.putfield 19, 3) := by decide +kernel
theorem dX8_digit_30 : decode cX8_digit 30 = .ok (.iload_n 3, 1) := by decide +kernel
theorem dX8_digit_31 : decode cX8_digit 31 = .ok (.ireturn, 1) := by decide +kernel
abbrev tl_X8_digit_0 : List (Nat × oOp) := [(0, o_ald 0 1), (1, o_callo T_X8_look 8 0 0 0 0 0 4), (4, o_push (vI 48) 6), (6, o_ib fSub 7), (7, o_ist 3 8), (8, o_ild 3 9), (9, o_ild 1 10), (10, o_ic pLt 18 13), (13, o_ild 3 14), (14, o_ild 2 15), (15, o_ic pLe 20 18), (18, o_push (vI (-1)) 19), (19, o_reti 0 0), (20, o_ald 0 21), (21, o_dup 22), (22, o_getI [8] 2 25), (25, o_push (vI 1) 26), (26, o_ib fAdd 27), (27, o_putI [8] 2 30), (30, o_ild 3 31), (31, o_reti 0 0)]
set_option maxRecDepth 20000 in
def tb_X8_digit : Nat → oOp := oTab [(0, o_ald 0 1), (1, o_callo T_X8_look 8 0 0 0 0 0 4), (4, o_push (vI 48) 6), (6, o_ib fSub 7), (7, o_ist 3 8), (8, o_ild 3 9), (9, o_ild 1 10), (10, o_ic pLt 18 13), (13, o_ild 3 14), (14, o_ild 2 15), (15, o_ic pLe 20 18), (18, o_push (vI (-1)) 19), (19, o_reti 0 0), (20, o_ald 0 21), (21, o_dup 22), (22, o_getI [8] 2 25), (25, o_push (vI 1) 26), (26, o_ib fAdd 27), (27, o_putI [8] 2 30), (30, o_ild 3 31), (31, o_reti 0 0)]
def T_X8_digit : List oA → oM → oQ → Prop := oT tb_X8_digit 4
set_option maxRecDepth 20000 in
theorem sn_X8_digit_0 {p : Program} {l : Launch} {e : Env} {s : State} {m : MethodId} {args : Array Value} {below : List Frame} {meth : Method} {c : Code} {D : va_G} {ids : Nat → ClassId} {b : Nat} {Q : oQ} (C : oCx p s m args c cX8_digit 4 (yX8_digit).cls D ids b) (hr : meth.sig.returnType = (some .int)) (hlk : meth.locks = false) (hnm : meth.name = (yX8_digit).name) : ∀ q ∈ tl_X8_digit_0, oSn (oW p l e (oRm 1 20 0 0) s m args below meth c 4 D ids b (oMQ D ids b below Q args s 0 0)) Q q.1 q.2 := List.forall_mem_cons.mpr ⟨so_aload_n C 0 rfl dX8_digit_0, List.forall_mem_cons.mpr ⟨so_callV C (y := yX8_look) 8 0 0 0 (RX8, TX8, 3) (by decide) rfl rfl ⟨Nat.le_refl _, Nat.le_refl _⟩ (c_X8_look l D ids) kw_378 kw_375 kw_376 kw_377 kw_2 hy_X8_look ⟨Nat.le_of_ble_eq_true rfl, Nat.le_of_ble_eq_true rfl⟩ dX8_digit_1, List.forall_mem_cons.mpr ⟨so_bipush C 48 rfl dX8_digit_4, List.forall_mem_cons.mpr ⟨so_isub C dX8_digit_6, List.forall_mem_cons.mpr ⟨so_istore_n C 3 rfl (by decide) dX8_digit_7, List.forall_mem_cons.mpr ⟨so_iload_n C 3 rfl dX8_digit_8, List.forall_mem_cons.mpr ⟨so_iload_n C 1 rfl dX8_digit_9, List.forall_mem_cons.mpr ⟨so_ic_lt C (by decide) dX8_digit_10, List.forall_mem_cons.mpr ⟨so_iload_n C 3 rfl dX8_digit_13, List.forall_mem_cons.mpr ⟨so_iload_n C 2 rfl dX8_digit_14, List.forall_mem_cons.mpr ⟨so_ic_le C (by decide) dX8_digit_15, List.forall_mem_cons.mpr ⟨so_iconst C (-1) rfl dX8_digit_18, List.forall_mem_cons.mpr ⟨so_reti C 0 0 hr hlk dX8_digit_19, List.forall_mem_cons.mpr ⟨so_aload_n C 0 rfl dX8_digit_20, List.forall_mem_cons.mpr ⟨so_dup C dX8_digit_21, List.forall_mem_cons.mpr ⟨so_getI C [8] 2 (fd_RX8_19_8 C) (by decide) dX8_digit_22, List.forall_mem_cons.mpr ⟨so_iconst C 1 rfl dX8_digit_25, List.forall_mem_cons.mpr ⟨so_iadd C dX8_digit_26, List.forall_mem_cons.mpr ⟨so_putI C [8] 2 (fd_RX8_19_8 C) (fn_8_2) (by decide) dX8_digit_27, List.forall_mem_cons.mpr ⟨so_iload_n C 3 rfl dX8_digit_30, List.forall_mem_cons.mpr ⟨so_reti C 0 0 hr hlk dX8_digit_31, fun _ h => absurd h List.not_mem_nil⟩⟩⟩⟩⟩⟩⟩⟩⟩⟩⟩⟩⟩⟩⟩⟩⟩⟩⟩⟩⟩
set_option maxRecDepth 20000 in
theorem c_X8_digit (l : Launch) (D : va_G) (ids : Nat → ClassId) : oMT l D ids yX8_digit cX8_digit 4 (some .int) 1 20 0 0 T_X8_digit := oMet l D ids tb_X8_digit (by decide) (fun p e s m args below meth c b Q C hr hlk hnm => oTab_all (tl_X8_digit_0) (sn_X8_digit_0 C hr hlk hnm))
theorem dX8_number_0 : decode cX8_number 0 = .ok (.aload_n 0, 1) := by decide +kernel
theorem dX8_number_1 : decode cX8_number 1 = .ok (.iload_n 1, 1) := by decide +kernel
theorem dX8_number_2 : decode cX8_number 2 = .ok (.bipush 9, 2) := by decide +kernel
theorem dX8_number_4 : decode cX8_number 4 = .ok (.invokevirtual 26, 3) := by decide +kernel
theorem dX8_number_7 : decode cX8_number 7 = .ok (.istore_n 3, 1) := by decide +kernel
theorem dX8_number_8 : decode cX8_number 8 = .ok (.iconst 1, 1) := by decide +kernel
theorem dX8_number_9 : decode cX8_number 9 = .ok (.istore 4, 2) := by decide +kernel
theorem dX8_number_11 : decode cX8_number 11 = .ok (.iload 4, 2) := by decide +kernel
theorem dX8_number_13 : decode cX8_number 13 = .ok (.iload_n 2, 1) := by decide +kernel
theorem dX8_number_14 : decode cX8_number 14 = .ok (.if_icmp .ge 37, 3) := by decide +kernel
theorem dX8_number_17 : decode cX8_number 17 = .ok (.iload_n 3, 1) := by decide +kernel
theorem dX8_number_18 : decode cX8_number 18 = .ok (.ifCond .lt 33, 3) := by decide +kernel
theorem dX8_number_21 : decode cX8_number 21 = .ok (.aload_n 0, 1) := by decide +kernel
theorem dX8_number_22 : decode cX8_number 22 = .ok (.iconst 0, 1) := by decide +kernel
theorem dX8_number_23 : decode cX8_number 23 = .ok (.bipush 9, 2) := by decide +kernel
theorem dX8_number_25 : decode cX8_number 25 = .ok (.invokevirtual 26, 3) := by decide +kernel
theorem dX8_number_28 : decode cX8_number 28 = .ok (.istore 5, 2) := by decide +kernel
theorem dX8_number_30 : decode cX8_number 30 = .ok (.iload 5, 2) := by decide +kernel
theorem dX8_number_32 : decode cX8_number 32 = .ok (.ifCond .ge 5, 3) := by decide +kernel
theorem dX8_number_35 : decode cX8_number 35 = .ok (.iload_n 3, 1) := by decide +kernel
theorem dX8_number_36 : decode cX8_number 36 = .ok (.ireturn, 1) := by decide +kernel
theorem dX8_number_37 : decode cX8_number 37 = .ok (.bipush 10, 2) := by decide +kernel
theorem dX8_number_39 : decode cX8_number 39 = .ok (.iload_n 3, 1) := by decide +kernel
theorem dX8_number_40 : decode cX8_number 40 = .ok (.imul, 1) := by decide +kernel
theorem dX8_number_41 : decode cX8_number 41 = .ok (.iload 5, 2) := by decide +kernel
theorem dX8_number_43 : decode cX8_number 43 = .ok (.iadd, 1) := by decide +kernel
theorem dX8_number_44 : decode cX8_number 44 = .ok (.istore_n 3, 1) := by decide +kernel
theorem dX8_number_45 : decode cX8_number 45 = .ok (.iinc 4 1, 3) := by decide +kernel
theorem dX8_number_48 : decode cX8_number 48 = .ok (.goto (-37), 3) := by decide +kernel
theorem dX8_number_51 : decode cX8_number 51 = .ok (.iload_n 3, 1) := by decide +kernel
theorem dX8_number_52 : decode cX8_number 52 = .ok (.ireturn, 1) := by decide +kernel
abbrev tl_X8_number_0 : List (Nat × oOp) := [(0, o_ald 0 1), (1, o_ild 1 2), (2, o_push (vI 9) 4), (4, o_callo T_X8_digit 8 2 0 0 0 0 7), (7, o_ist 3 8), (8, o_push (vI 1) 9), (9, o_ist 4 11), (11, o_ild 4 13), (13, o_ild 2 14), (14, o_ic pGe 51 17), (17, o_ild 3 18), (18, o_if zLt 51 21), (21, o_ald 0 22), (22, o_push (vI 0) 23), (23, o_push (vI 9) 25), (25, o_callo T_X8_digit 8 2 0 0 0 0 28), (28, o_ist 5 30), (30, o_ild 5 32), (32, o_if zGe 37 35), (35, o_ild 3 36), (36, o_reti 0 0), (37, o_push (vI 10) 39), (39, o_ild 3 40), (40, o_ib fMul 41)]
abbrev tl_X8_number_1 : List (Nat × oOp) := [(41, o_ild 5 43), (43, o_ib fAdd 44), (44, o_ist 3 45), (45, o_inc 4 1 48), (48, o_go 11), (51, o_ild 3 52), (52, o_reti 0 0)]
set_option maxRecDepth 20000 in
def tb_X8_number : Nat → oOp := oTab [(0, o_ald 0 1), (1, o_ild 1 2), (2, o_push (vI 9) 4), (4, o_callo T_X8_digit 8 2 0 0 0 0 7), (7, o_ist 3 8), (8, o_push (vI 1) 9), (9, o_ist 4 11), (11, o_ild 4 13), (13, o_ild 2 14), (14, o_ic pGe 51 17), (17, o_ild 3 18), (18, o_if zLt 51 21), (21, o_ald 0 22), (22, o_push (vI 0) 23), (23, o_push (vI 9) 25), (25, o_callo T_X8_digit 8 2 0 0 0 0 28), (28, o_ist 5 30), (30, o_ild 5 32), (32, o_if zGe 37 35), (35, o_ild 3 36), (36, o_reti 0 0), (37, o_push (vI 10) 39), (39, o_ild 3 40), (40, o_ib fMul 41), (41, o_ild 5 43), (43, o_ib fAdd 44), (44, o_ist 3 45), (45, o_inc 4 1 48), (48, o_go 11), (51, o_ild 3 52), (52, o_reti 0 0)]
def T_X8_number : List oA → oM → oQ → Prop := oT tb_X8_number 6
set_option maxRecDepth 20000 in
theorem sn_X8_number_0 {p : Program} {l : Launch} {e : Env} {s : State} {m : MethodId} {args : Array Value} {below : List Frame} {meth : Method} {c : Code} {D : va_G} {ids : Nat → ClassId} {b : Nat} {Q : oQ} (C : oCx p s m args c cX8_number 6 (yX8_number).cls D ids b) (hr : meth.sig.returnType = (some .int)) (hlk : meth.locks = false) (hnm : meth.name = (yX8_number).name) : ∀ q ∈ tl_X8_number_0, oSn (oW p l e (oRm 2 43 0 0) s m args below meth c 6 D ids b (oMQ D ids b below Q args s 0 0)) Q q.1 q.2 := List.forall_mem_cons.mpr ⟨so_aload_n C 0 rfl dX8_number_0, List.forall_mem_cons.mpr ⟨so_iload_n C 1 rfl dX8_number_1, List.forall_mem_cons.mpr ⟨so_bipush C 9 rfl dX8_number_2, List.forall_mem_cons.mpr ⟨so_callV C (y := yX8_digit) 8 2 0 0 (RX8, TX8, 3) (by decide) rfl rfl ⟨Nat.le_refl _, Nat.le_refl _⟩ (c_X8_digit l D ids) kw_386 kw_383 kw_384 kw_385 kw_2 hy_X8_digit ⟨Nat.le_of_ble_eq_true rfl, Nat.le_of_ble_eq_true rfl⟩ dX8_number_4, List.forall_mem_cons.mpr ⟨so_istore_n C 3 rfl (by decide) dX8_number_7, List.forall_mem_cons.mpr ⟨so_iconst C 1 rfl dX8_number_8, List.forall_mem_cons.mpr ⟨so_istore C 4 (by decide) dX8_number_9, List.forall_mem_cons.mpr ⟨so_iload C 4 dX8_number_11, List.forall_mem_cons.mpr ⟨so_iload_n C 2 rfl dX8_number_13, List.forall_mem_cons.mpr ⟨so_ic_ge C (by decide) dX8_number_14, List.forall_mem_cons.mpr ⟨so_iload_n C 3 rfl dX8_number_17, List.forall_mem_cons.mpr ⟨so_if_lt C (by decide) dX8_number_18, List.forall_mem_cons.mpr ⟨so_aload_n C 0 rfl dX8_number_21, List.forall_mem_cons.mpr ⟨so_iconst C 0 rfl dX8_number_22, List.forall_mem_cons.mpr ⟨so_bipush C 9 rfl dX8_number_23, List.forall_mem_cons.mpr ⟨so_callV C (y := yX8_digit) 8 2 0 0 (RX8, TX8, 3) (by decide) rfl rfl ⟨Nat.le_refl _, Nat.le_refl _⟩ (c_X8_digit l D ids) kw_386 kw_383 kw_384 kw_385 kw_2 hy_X8_digit ⟨Nat.le_of_ble_eq_true rfl, Nat.le_of_ble_eq_true rfl⟩ dX8_number_25, List.forall_mem_cons.mpr ⟨so_istore C 5 (by decide) dX8_number_28, List.forall_mem_cons.mpr ⟨so_iload C 5 dX8_number_30, List.forall_mem_cons.mpr ⟨so_if_ge C (by decide) dX8_number_32, List.forall_mem_cons.mpr ⟨so_iload_n C 3 rfl dX8_number_35, List.forall_mem_cons.mpr ⟨so_reti C 0 0 hr hlk dX8_number_36, List.forall_mem_cons.mpr ⟨so_bipush C 10 rfl dX8_number_37, List.forall_mem_cons.mpr ⟨so_iload_n C 3 rfl dX8_number_39, List.forall_mem_cons.mpr ⟨so_imul C dX8_number_40, fun _ h => absurd h List.not_mem_nil⟩⟩⟩⟩⟩⟩⟩⟩⟩⟩⟩⟩⟩⟩⟩⟩⟩⟩⟩⟩⟩⟩⟩⟩
set_option maxRecDepth 20000 in
theorem sn_X8_number_1 {p : Program} {l : Launch} {e : Env} {s : State} {m : MethodId} {args : Array Value} {below : List Frame} {meth : Method} {c : Code} {D : va_G} {ids : Nat → ClassId} {b : Nat} {Q : oQ} (C : oCx p s m args c cX8_number 6 (yX8_number).cls D ids b) (hr : meth.sig.returnType = (some .int)) (hlk : meth.locks = false) (hnm : meth.name = (yX8_number).name) : ∀ q ∈ tl_X8_number_1, oSn (oW p l e (oRm 2 43 0 0) s m args below meth c 6 D ids b (oMQ D ids b below Q args s 0 0)) Q q.1 q.2 := List.forall_mem_cons.mpr ⟨so_iload C 5 dX8_number_41, List.forall_mem_cons.mpr ⟨so_iadd C dX8_number_43, List.forall_mem_cons.mpr ⟨so_istore_n C 3 rfl (by decide) dX8_number_44, List.forall_mem_cons.mpr ⟨so_iinc C 4 1 (by decide) dX8_number_45, List.forall_mem_cons.mpr ⟨so_goto C (by decide) dX8_number_48, List.forall_mem_cons.mpr ⟨so_iload_n C 3 rfl dX8_number_51, List.forall_mem_cons.mpr ⟨so_reti C 0 0 hr hlk dX8_number_52, fun _ h => absurd h List.not_mem_nil⟩⟩⟩⟩⟩⟩⟩
set_option maxRecDepth 20000 in
theorem c_X8_number (l : Launch) (D : va_G) (ids : Nat → ClassId) : oMT l D ids yX8_number cX8_number 6 (some .int) 2 43 0 0 T_X8_number := oMet l D ids tb_X8_number (by decide) (fun p e s m args below meth c b Q C hr hlk hnm => oTab_all (tl_X8_number_0 ++ (tl_X8_number_1)) (List.forall_mem_append.mpr ⟨sn_X8_number_0 C hr hlk hnm, sn_X8_number_1 C hr hlk hnm⟩))
theorem dX10_readStand_0 : decode cX10_readStand 0 = .ok (.aload_n 0, 1) := by decide +kernel
theorem dX10_readStand_1 : decode cX10_readStand 1 = .ok (.getfield 11, 3) := by decide +kernel
theorem dX10_readStand_4 : decode cX10_readStand 4 = .ok (.iload_n 2, 1) := by decide +kernel
theorem dX10_readStand_5 : decode cX10_readStand 5 = .ok (.aload_n 1, 1) := by decide +kernel
theorem dX10_readStand_6 : decode cX10_readStand 6 = .ok (.iconst 0, 1) := by decide +kernel
theorem dX10_readStand_7 : decode cX10_readStand 7 = .ok (.bipush 7, 2) := by decide +kernel
theorem dX10_readStand_9 : decode cX10_readStand 9 = .ok (.invokevirtual 42, 3) := by decide +kernel
theorem dX10_readStand_12 : decode cX10_readStand 12 = .ok (.iastore, 1) := by decide +kernel
theorem dX10_readStand_13 : decode cX10_readStand 13 = .ok (.aload_n 0, 1) := by decide +kernel
theorem dX10_readStand_14 : decode cX10_readStand 14 = .ok (.getfield 11, 3) := by decide +kernel
theorem dX10_readStand_17 : decode cX10_readStand 17 = .ok (.iload_n 2, 1) := by decide +kernel
theorem dX10_readStand_18 : decode cX10_readStand 18 = .ok (.iaload, 1) := by decide +kernel
theorem dX10_readStand_19 : decode cX10_readStand 19 = .ok (.ifCond .lt 12, 3) := by decide +kernel
theorem dX10_readStand_22 : decode cX10_readStand 22 = .ok (.aload_n 1, 1) := by decide +kernel
theorem dX10_readStand_23 : decode cX10_readStand 23 = .ok (.bipush 100, 2) := by decide +kernel
theorem dX10_readStand_25 : decode cX10_readStand 25 = .ok (.invokevirtual 30, 3) := by decide +kernel
theorem dX10_readStand_28 : decode cX10_readStand 28 = .ok (.ifCond .ne 5, 3) := by decide +kernel
theorem dX10_readStand_31 : decode cX10_readStand 31 = .ok (.iconst 0, 1) := by decide +kernel
theorem dX10_readStand_32 : decode cX10_readStand 32 = .ok (.ireturn, 1) := by decide +kernel
theorem dX10_readStand_33 : decode cX10_readStand 33 = .ok (.aload_n 0, 1) := by decide +kernel
theorem dX10_readStand_34 : decode cX10_readStand 34 = .ok (.getfield 15, 3) := by decide +kernel
theorem dX10_readStand_37 : decode cX10_readStand 37 = .ok (.iload_n 2, 1) := by decide +kernel
theorem dX10_readStand_38 : decode cX10_readStand 38 = .ok (.aload_n 1, 1) := by decide +kernel
theorem dX10_readStand_39 : decode cX10_readStand 39 = .ok (.iconst 0, 1) := by decide +kernel
theorem dX10_readStand_40 : decode cX10_readStand 40 = .ok (.iconst 2, 1) := by decide +kernel
theorem dX10_readStand_41 : decode cX10_readStand 41 = .ok (.invokevirtual 46, 3) := by decide +kernel
theorem dX10_readStand_44 : decode cX10_readStand 44 = .ok (.iastore, 1) := by decide +kernel
theorem dX10_readStand_45 : decode cX10_readStand 45 = .ok (.aload_n 0, 1) := by decide +kernel
theorem dX10_readStand_46 : decode cX10_readStand 46 = .ok (.getfield 15, 3) := by decide +kernel
theorem dX10_readStand_49 : decode cX10_readStand 49 = .ok (.iload_n 2, 1) := by decide +kernel
theorem dX10_readStand_50 : decode cX10_readStand 50 = .ok (.iaload, 1) := by decide +kernel
theorem dX10_readStand_51 : decode cX10_readStand 51 = .ok (.ifCond .lt 12, 3) := by decide +kernel
theorem dX10_readStand_54 : decode cX10_readStand 54 = .ok (.aload_n 1, 1) := by decide +kernel
theorem dX10_readStand_55 : decode cX10_readStand 55 = .ok (.bipush 45, 2) := by decide +kernel
theorem dX10_readStand_57 : decode cX10_readStand 57 = .ok (.invokevirtual 30, 3) := by decide +kernel
theorem dX10_readStand_60 : decode cX10_readStand 60 = .ok (.ifCond .ne 5, 3) := by decide +kernel
theorem dX10_readStand_63 : decode cX10_readStand 63 = .ok (.iconst 0, 1) := by decide +kernel
theorem dX10_readStand_64 : decode cX10_readStand 64 = .ok (.ireturn, 1) := by decide +kernel
theorem dX10_readStand_65 : decode cX10_readStand 65 = .ok (.aload_n 0, 1) := by decide +kernel
theorem dX10_readStand_66 : decode cX10_readStand 66 = .ok (.getfield 18, 3) := by decide +kernel
theorem dX10_readStand_69 : decode cX10_readStand 69 = .ok (.iload_n 2, 1) := by decide +kernel
theorem dX10_readStand_70 : decode cX10_readStand 70 = .ok (.aload_n 1, 1) := by decide +kernel
theorem dX10_readStand_71 : decode cX10_readStand 71 = .ok (.iconst 0, 1) := by decide +kernel
theorem dX10_readStand_72 : decode cX10_readStand 72 = .ok (.iconst 2, 1) := by decide +kernel
theorem dX10_readStand_73 : decode cX10_readStand 73 = .ok (.invokevirtual 46, 3) := by decide +kernel
theorem dX10_readStand_76 : decode cX10_readStand 76 = .ok (.iastore, 1) := by decide +kernel
theorem dX10_readStand_77 : decode cX10_readStand 77 = .ok (.aload_n 0, 1) := by decide +kernel
theorem dX10_readStand_78 : decode cX10_readStand 78 = .ok (.getfield 18, 3) := by decide +kernel
theorem dX10_readStand_81 : decode cX10_readStand 81 = .ok (.iload_n 2, 1) := by decide +kernel
theorem dX10_readStand_82 : decode cX10_readStand 82 = .ok (.iaload, 1) := by decide +kernel
theorem dX10_readStand_83 : decode cX10_readStand 83 = .ok (.ifCond .lt 7, 3) := by decide +kernel
theorem dX10_readStand_86 : decode cX10_readStand 86 = .ok (.iconst 1, 1) := by decide +kernel
theorem dX10_readStand_87 : decode cX10_readStand 87 = .ok (.goto 4, 3) := by decide +kernel
theorem dX10_readStand_90 : decode cX10_readStand 90 = .ok (.iconst 0, 1) := by decide +kernel
theorem dX10_readStand_91 : decode cX10_readStand 91 = .ok (.ireturn, 1) := by decide +kernel
abbrev tl_X10_readStand_0 : List (Nat × oOp) := [(0, o_ald 0 1), (1, o_getR [10] 2 4), (4, o_ild 2 5), (5, o_ald 1 6), (6, o_push (vI 0) 7), (7, o_push (vI 7) 9), (9, o_callo T_X8_digit 8 2 0 0 0 0 12), (12, o_iast 13), (13, o_ald 0 14), (14, o_getR [10] 2 17), (17, o_ild 2 18), (18, o_xald 13 19), (19, o_if zLt 31 22), (22, o_ald 1 23), (23, o_push (vI 100) 25), (25, o_callo T_X8_take 8 1 0 0 0 0 28), (28, o_if zNe 33 31), (31, o_push (vI 0) 32), (32, o_retz 0 0), (33, o_ald 0 34), (34, o_getR [10] 3 37), (37, o_ild 2 38), (38, o_ald 1 39), (39, o_push (vI 0) 40)]
abbrev tl_X10_readStand_1 : List (Nat × oOp) := [(40, o_push (vI 2) 41), (41, o_callo T_X8_number 8 2 0 0 0 0 44), (44, o_iast 45), (45, o_ald 0 46), (46, o_getR [10] 3 49), (49, o_ild 2 50), (50, o_xald 13 51), (51, o_if zLt 63 54), (54, o_ald 1 55), (55, o_push (vI 45) 57), (57, o_callo T_X8_take 8 1 0 0 0 0 60), (60, o_if zNe 65 63), (63, o_push (vI 0) 64), (64, o_retz 0 0), (65, o_ald 0 66), (66, o_getR [10] 4 69), (69, o_ild 2 70), (70, o_ald 1 71), (71, o_push (vI 0) 72), (72, o_push (vI 2) 73), (73, o_callo T_X8_number 8 2 0 0 0 0 76), (76, o_iast 77), (77, o_ald 0 78), (78, o_getR [10] 4 81)]
abbrev tl_X10_readStand_2 : List (Nat × oOp) := [(81, o_ild 2 82), (82, o_xald 13 83), (83, o_if zLt 90 86), (86, o_push (vI 1) 87), (87, o_go 91), (90, o_push (vI 0) 91), (91, o_retz 0 0)]
set_option maxRecDepth 20000 in
def tb_X10_readStand : Nat → oOp := oTab [(0, o_ald 0 1), (1, o_getR [10] 2 4), (4, o_ild 2 5), (5, o_ald 1 6), (6, o_push (vI 0) 7), (7, o_push (vI 7) 9), (9, o_callo T_X8_digit 8 2 0 0 0 0 12), (12, o_iast 13), (13, o_ald 0 14), (14, o_getR [10] 2 17), (17, o_ild 2 18), (18, o_xald 13 19), (19, o_if zLt 31 22), (22, o_ald 1 23), (23, o_push (vI 100) 25), (25, o_callo T_X8_take 8 1 0 0 0 0 28), (28, o_if zNe 33 31), (31, o_push (vI 0) 32), (32, o_retz 0 0), (33, o_ald 0 34), (34, o_getR [10] 3 37), (37, o_ild 2 38), (38, o_ald 1 39), (39, o_push (vI 0) 40), (40, o_push (vI 2) 41), (41, o_callo T_X8_number 8 2 0 0 0 0 44), (44, o_iast 45), (45, o_ald 0 46), (46, o_getR [10] 3 49), (49, o_ild 2 50), (50, o_xald 13 51), (51, o_if zLt 63 54), (54, o_ald 1 55), (55, o_push (vI 45) 57), (57, o_callo T_X8_take 8 1 0 0 0 0 60), (60, o_if zNe 65 63), (63, o_push (vI 0) 64), (64, o_retz 0 0), (65, o_ald 0 66), (66, o_getR [10] 4 69), (69, o_ild 2 70), (70, o_ald 1 71), (71, o_push (vI 0) 72), (72, o_push (vI 2) 73), (73, o_callo T_X8_number 8 2 0 0 0 0 76), (76, o_iast 77), (77, o_ald 0 78), (78, o_getR [10] 4 81), (81, o_ild 2 82), (82, o_xald 13 83), (83, o_if zLt 90 86), (86, o_push (vI 1) 87), (87, o_go 91), (90, o_push (vI 0) 91), (91, o_retz 0 0)]
def T_X10_readStand : List oA → oM → oQ → Prop := oT tb_X10_readStand 3
set_option maxRecDepth 20000 in
theorem sn_X10_readStand_0 {p : Program} {l : Launch} {e : Env} {s : State} {m : MethodId} {args : Array Value} {below : List Frame} {meth : Method} {c : Code} {D : va_G} {ids : Nat → ClassId} {b : Nat} {Q : oQ} (C : oCx p s m args c cX10_readStand 3 (yX10_readStand).cls D ids b) (hr : meth.sig.returnType = (some .boolean)) (hlk : meth.locks = false) (hnm : meth.name = (yX10_readStand).name) : ∀ q ∈ tl_X10_readStand_0, oSn (oW p l e (oRm 3 68 0 0) s m args below meth c 3 D ids b (oMQ D ids b below Q args s 0 0)) Q q.1 q.2 := List.forall_mem_cons.mpr ⟨so_aload_n C 0 rfl dX10_readStand_0, List.forall_mem_cons.mpr ⟨so_getR C [10] 2 (fd_RX10_11_10 C) (ft_10_2) dX10_readStand_1, List.forall_mem_cons.mpr ⟨so_iload_n C 2 rfl dX10_readStand_4, List.forall_mem_cons.mpr ⟨so_aload_n C 1 rfl dX10_readStand_5, List.forall_mem_cons.mpr ⟨so_iconst C 0 rfl dX10_readStand_6, List.forall_mem_cons.mpr ⟨so_bipush C 7 rfl dX10_readStand_7, List.forall_mem_cons.mpr ⟨so_callV C (y := yX8_digit) 8 2 0 0 (RX8, TX8, 3) (by decide) rfl rfl ⟨Nat.le_refl _, Nat.le_refl _⟩ (c_X8_digit l D ids) kw_386 kw_428 kw_384 kw_385 kw_2 hy_X8_digit ⟨Nat.le_of_ble_eq_true rfl, Nat.le_of_ble_eq_true rfl⟩ dX10_readStand_9, List.forall_mem_cons.mpr ⟨so_iast C dX10_readStand_12, List.forall_mem_cons.mpr ⟨so_aload_n C 0 rfl dX10_readStand_13, List.forall_mem_cons.mpr ⟨so_getR C [10] 2 (fd_RX10_11_10 C) (ft_10_2) dX10_readStand_14, List.forall_mem_cons.mpr ⟨so_iload_n C 2 rfl dX10_readStand_17, List.forall_mem_cons.mpr ⟨so_iald C dX10_readStand_18, List.forall_mem_cons.mpr ⟨so_if_lt C (by decide) dX10_readStand_19, List.forall_mem_cons.mpr ⟨so_aload_n C 1 rfl dX10_readStand_22, List.forall_mem_cons.mpr ⟨so_bipush C 100 rfl dX10_readStand_23, List.forall_mem_cons.mpr ⟨so_callV C (y := yX8_take) 8 1 0 0 (RX8, TX8, 3) (by decide) rfl rfl ⟨Nat.le_refl _, Nat.le_refl _⟩ (c_X8_take l D ids) kw_374 kw_423 kw_372 kw_373 kw_2 hy_X8_take ⟨Nat.le_of_ble_eq_true rfl, Nat.le_of_ble_eq_true rfl⟩ dX10_readStand_25, List.forall_mem_cons.mpr ⟨so_if_ne C (by decide) dX10_readStand_28, List.forall_mem_cons.mpr ⟨so_iconst C 0 rfl dX10_readStand_31, List.forall_mem_cons.mpr ⟨so_retz C 0 0 hr hlk dX10_readStand_32, List.forall_mem_cons.mpr ⟨so_aload_n C 0 rfl dX10_readStand_33, List.forall_mem_cons.mpr ⟨so_getR C [10] 3 (fd_RX10_15_10 C) (ft_10_3) dX10_readStand_34, List.forall_mem_cons.mpr ⟨so_iload_n C 2 rfl dX10_readStand_37, List.forall_mem_cons.mpr ⟨so_aload_n C 1 rfl dX10_readStand_38, List.forall_mem_cons.mpr ⟨so_iconst C 0 rfl dX10_readStand_39, fun _ h => absurd h List.not_mem_nil⟩⟩⟩⟩⟩⟩⟩⟩⟩⟩⟩⟩⟩⟩⟩⟩⟩⟩⟩⟩⟩⟩⟩⟩
set_option maxRecDepth 20000 in
theorem sn_X10_readStand_1 {p : Program} {l : Launch} {e : Env} {s : State} {m : MethodId} {args : Array Value} {below : List Frame} {meth : Method} {c : Code} {D : va_G} {ids : Nat → ClassId} {b : Nat} {Q : oQ} (C : oCx p s m args c cX10_readStand 3 (yX10_readStand).cls D ids b) (hr : meth.sig.returnType = (some .boolean)) (hlk : meth.locks = false) (hnm : meth.name = (yX10_readStand).name) : ∀ q ∈ tl_X10_readStand_1, oSn (oW p l e (oRm 3 68 0 0) s m args below meth c 3 D ids b (oMQ D ids b below Q args s 0 0)) Q q.1 q.2 := List.forall_mem_cons.mpr ⟨so_iconst C 2 rfl dX10_readStand_40, List.forall_mem_cons.mpr ⟨so_callV C (y := yX8_number) 8 2 0 0 (RX8, TX8, 3) (by decide) rfl rfl ⟨Nat.le_refl _, Nat.le_refl _⟩ (c_X8_number l D ids) kw_382 kw_429 kw_380 kw_381 kw_2 hy_X8_number ⟨Nat.le_of_ble_eq_true rfl, Nat.le_of_ble_eq_true rfl⟩ dX10_readStand_41, List.forall_mem_cons.mpr ⟨so_iast C dX10_readStand_44, List.forall_mem_cons.mpr ⟨so_aload_n C 0 rfl dX10_readStand_45, List.forall_mem_cons.mpr ⟨so_getR C [10] 3 (fd_RX10_15_10 C) (ft_10_3) dX10_readStand_46, List.forall_mem_cons.mpr ⟨so_iload_n C 2 rfl dX10_readStand_49, List.forall_mem_cons.mpr ⟨so_iald C dX10_readStand_50, List.forall_mem_cons.mpr ⟨so_if_lt C (by decide) dX10_readStand_51, List.forall_mem_cons.mpr ⟨so_aload_n C 1 rfl dX10_readStand_54, List.forall_mem_cons.mpr ⟨so_bipush C 45 rfl dX10_readStand_55, List.forall_mem_cons.mpr ⟨so_callV C (y := yX8_take) 8 1 0 0 (RX8, TX8, 3) (by decide) rfl rfl ⟨Nat.le_refl _, Nat.le_refl _⟩ (c_X8_take l D ids) kw_374 kw_423 kw_372 kw_373 kw_2 hy_X8_take ⟨Nat.le_of_ble_eq_true rfl, Nat.le_of_ble_eq_true rfl⟩ dX10_readStand_57, List.forall_mem_cons.mpr ⟨so_if_ne C (by decide) dX10_readStand_60, List.forall_mem_cons.mpr ⟨so_iconst C 0 rfl dX10_readStand_63, List.forall_mem_cons.mpr ⟨so_retz C 0 0 hr hlk dX10_readStand_64, List.forall_mem_cons.mpr ⟨so_aload_n C 0 rfl dX10_readStand_65, List.forall_mem_cons.mpr ⟨so_getR C [10] 4 (fd_RX10_18_10 C) (ft_10_4) dX10_readStand_66, List.forall_mem_cons.mpr ⟨so_iload_n C 2 rfl dX10_readStand_69, List.forall_mem_cons.mpr ⟨so_aload_n C 1 rfl dX10_readStand_70, List.forall_mem_cons.mpr ⟨so_iconst C 0 rfl dX10_readStand_71, List.forall_mem_cons.mpr ⟨so_iconst C 2 rfl dX10_readStand_72, List.forall_mem_cons.mpr ⟨so_callV C (y := yX8_number) 8 2 0 0 (RX8, TX8, 3) (by decide) rfl rfl ⟨Nat.le_refl _, Nat.le_refl _⟩ (c_X8_number l D ids) kw_382 kw_429 kw_380 kw_381 kw_2 hy_X8_number ⟨Nat.le_of_ble_eq_true rfl, Nat.le_of_ble_eq_true rfl⟩ dX10_readStand_73, List.forall_mem_cons.mpr ⟨so_iast C dX10_readStand_76, List.forall_mem_cons.mpr ⟨so_aload_n C 0 rfl dX10_readStand_77, List.forall_mem_cons.mpr ⟨so_getR C [10] 4 (fd_RX10_18_10 C) (ft_10_4) dX10_readStand_78, fun _ h => absurd h List.not_mem_nil⟩⟩⟩⟩⟩⟩⟩⟩⟩⟩⟩⟩⟩⟩⟩⟩⟩⟩⟩⟩⟩⟩⟩⟩
set_option maxRecDepth 20000 in
theorem sn_X10_readStand_2 {p : Program} {l : Launch} {e : Env} {s : State} {m : MethodId} {args : Array Value} {below : List Frame} {meth : Method} {c : Code} {D : va_G} {ids : Nat → ClassId} {b : Nat} {Q : oQ} (C : oCx p s m args c cX10_readStand 3 (yX10_readStand).cls D ids b) (hr : meth.sig.returnType = (some .boolean)) (hlk : meth.locks = false) (hnm : meth.name = (yX10_readStand).name) : ∀ q ∈ tl_X10_readStand_2, oSn (oW p l e (oRm 3 68 0 0) s m args below meth c 3 D ids b (oMQ D ids b below Q args s 0 0)) Q q.1 q.2 := List.forall_mem_cons.mpr ⟨so_iload_n C 2 rfl dX10_readStand_81, List.forall_mem_cons.mpr ⟨so_iald C dX10_readStand_82, List.forall_mem_cons.mpr ⟨so_if_lt C (by decide) dX10_readStand_83, List.forall_mem_cons.mpr ⟨so_iconst C 1 rfl dX10_readStand_86, List.forall_mem_cons.mpr ⟨so_goto C (by decide) dX10_readStand_87, List.forall_mem_cons.mpr ⟨so_iconst C 0 rfl dX10_readStand_90, List.forall_mem_cons.mpr ⟨so_retz C 0 0 hr hlk dX10_readStand_91, fun _ h => absurd h List.not_mem_nil⟩⟩⟩⟩⟩⟩⟩
set_option maxRecDepth 20000 in
theorem c_X10_readStand (l : Launch) (D : va_G) (ids : Nat → ClassId) : oMT l D ids yX10_readStand cX10_readStand 3 (some .boolean) 3 68 0 0 T_X10_readStand := oMet l D ids tb_X10_readStand (by decide) (fun p e s m args below meth c b Q C hr hlk hnm => oTab_all (tl_X10_readStand_0 ++ (tl_X10_readStand_1 ++ (tl_X10_readStand_2))) (List.forall_mem_append.mpr ⟨sn_X10_readStand_0 C hr hlk hnm, List.forall_mem_append.mpr ⟨sn_X10_readStand_1 C hr hlk hnm, sn_X10_readStand_2 C hr hlk hnm⟩⟩))
theorem dX8_atEnd_0 : decode cX8_atEnd 0 = .ok (.aload_n 0, 1) := by decide +kernel
theorem dX8_atEnd_1 : decode cX8_atEnd 1 = .ok (.getfield 19, 3) := by decide +kernel
theorem dX8_atEnd_4 : decode cX8_atEnd 4 = .ok (.aload_n 0, 1) := by decide +kernel
theorem dX8_atEnd_5 : decode cX8_atEnd 5 = .ok (.getfield 15, 3) := by decide +kernel
theorem dX8_atEnd_8 : decode cX8_atEnd 8 = .ok (.if_icmp .lt 7, 3) := by decide +kernel
theorem dX8_atEnd_11 : decode cX8_atEnd 11 = .ok (.iconst 1, 1) := by decide +kernel
theorem dX8_atEnd_12 : decode cX8_atEnd 12 = .ok (.goto 4, 3) := by decide +kernel
theorem dX8_atEnd_15 : decode cX8_atEnd 15 = .ok (.iconst 0, 1) := by decide +kernel
theorem dX8_atEnd_16 : decode cX8_atEnd 16 = .ok (.ireturn, 1) := by decide +kernel
abbrev tl_X8_atEnd_0 : List (Nat × oOp) := [(0, o_ald 0 1), (1, o_getI [8] 2 4), (4, o_ald 0 5), (5, o_getI [8] 1 8), (8, o_ic pLt 15 11), (11, o_push (vI 1) 12), (12, o_go 16), (15, o_push (vI 0) 16), (16, o_retz 0 0)]
set_option maxRecDepth 20000 in
def tb_X8_atEnd : Nat → oOp := oTab [(0, o_ald 0 1), (1, o_getI [8] 2 4), (4, o_ald 0 5), (5, o_getI [8] 1 8), (8, o_ic pLt 15 11), (11, o_push (vI 1) 12), (12, o_go 16), (15, o_push (vI 0) 16), (16, o_retz 0 0)]
def T_X8_atEnd : List oA → oM → oQ → Prop := oT tb_X8_atEnd 1
set_option maxRecDepth 20000 in
theorem sn_X8_atEnd_0 {p : Program} {l : Launch} {e : Env} {s : State} {m : MethodId} {args : Array Value} {below : List Frame} {meth : Method} {c : Code} {D : va_G} {ids : Nat → ClassId} {b : Nat} {Q : oQ} (C : oCx p s m args c cX8_atEnd 1 (yX8_atEnd).cls D ids b) (hr : meth.sig.returnType = (some .boolean)) (hlk : meth.locks = false) (hnm : meth.name = (yX8_atEnd).name) : ∀ q ∈ tl_X8_atEnd_0, oSn (oW p l e (oRm 0 0 0 0) s m args below meth c 1 D ids b (oMQ D ids b below Q args s 0 0)) Q q.1 q.2 := List.forall_mem_cons.mpr ⟨so_aload_n C 0 rfl dX8_atEnd_0, List.forall_mem_cons.mpr ⟨so_getI C [8] 2 (fd_RX8_19_8 C) (by decide) dX8_atEnd_1, List.forall_mem_cons.mpr ⟨so_aload_n C 0 rfl dX8_atEnd_4, List.forall_mem_cons.mpr ⟨so_getI C [8] 1 (fd_RX8_15_8 C) (by decide) dX8_atEnd_5, List.forall_mem_cons.mpr ⟨so_ic_lt C (by decide) dX8_atEnd_8, List.forall_mem_cons.mpr ⟨so_iconst C 1 rfl dX8_atEnd_11, List.forall_mem_cons.mpr ⟨so_goto C (by decide) dX8_atEnd_12, List.forall_mem_cons.mpr ⟨so_iconst C 0 rfl dX8_atEnd_15, List.forall_mem_cons.mpr ⟨so_retz C 0 0 hr hlk dX8_atEnd_16, fun _ h => absurd h List.not_mem_nil⟩⟩⟩⟩⟩⟩⟩⟩⟩
set_option maxRecDepth 20000 in
theorem c_X8_atEnd (l : Launch) (D : va_G) (ids : Nat → ClassId) : oMT l D ids yX8_atEnd cX8_atEnd 1 (some .boolean) 0 0 0 0 T_X8_atEnd := oMet l D ids tb_X8_atEnd (by decide) (fun p e s m args below meth c b Q C hr hlk hnm => oTab_all (tl_X8_atEnd_0) (sn_X8_atEnd_0 C hr hlk hnm))
theorem dX10_read_0 : decode cX10_read 0 = .ok (.aload_n 1, 1) := by decide +kernel
theorem dX10_read_1 : decode cX10_read 1 = .ok (.iconst 0, 1) := by decide +kernel
theorem dX10_read_2 : decode cX10_read 2 = .ok (.putfield 21, 3) := by decide +kernel
theorem dX10_read_5 : decode cX10_read 5 = .ok (.aload_n 0, 1) := by decide +kernel
theorem dX10_read_6 : decode cX10_read 6 = .ok (.iconst 0, 1) := by decide +kernel
theorem dX10_read_7 : decode cX10_read 7 = .ok (.putfield 27, 3) := by decide +kernel
theorem dX10_read_10 : decode cX10_read 10 = .ok (.iconst 0, 1) := by decide +kernel
theorem dX10_read_11 : decode cX10_read 11 = .ok (.istore_n 2, 1) := by decide +kernel
theorem dX10_read_12 : decode cX10_read 12 = .ok (.iload_n 2, 1) := by decide +kernel
theorem dX10_read_13 : decode cX10_read 13 = .ok (.bipush 6, 2) := by decide +kernel
theorem dX10_read_15 : decode cX10_read 15 = .ok (.if_icmp .ge 43, 3) := by decide +kernel
theorem dX10_read_18 : decode cX10_read 18 = .ok (.iload_n 2, 1) := by decide +kernel
theorem dX10_read_19 : decode cX10_read 19 = .ok (.ifCond .le 15, 3) := by decide +kernel
theorem dX10_read_22 : decode cX10_read 22 = .ok (.aload_n 1, 1) := by decide +kernel
theorem dX10_read_23 : decode cX10_read 23 = .ok (.bipush 44, 2) := by decide +kernel
theorem dX10_read_25 : decode cX10_read 25 = .ok (.invokevirtual 30, 3) := by decide +kernel
theorem dX10_read_28 : decode cX10_read 28 = .ok (.ifCond .ne 6, 3) := by decide +kernel
theorem dX10_read_31 : decode cX10_read 31 = .ok (.goto 27, 3) := by decide +kernel
theorem dX10_read_34 : decode cX10_read 34 = .ok (.aload_n 0, 1) := by decide +kernel
theorem dX10_read_35 : decode cX10_read 35 = .ok (.aload_n 1, 1) := by decide +kernel
theorem dX10_read_36 : decode cX10_read 36 = .ok (.iload_n 2, 1) := by decide +kernel
theorem dX10_read_37 : decode cX10_read 37 = .ok (.invokevirtual 34, 3) := by decide +kernel
theorem dX10_read_40 : decode cX10_read 40 = .ok (.ifCond .ne 5, 3) := by decide +kernel
theorem dX10_read_43 : decode cX10_read 43 = .ok (.iconst 0, 1) := by decide +kernel
theorem dX10_read_44 : decode cX10_read 44 = .ok (.ireturn, 1) := by decide +kernel
theorem dX10_read_45 : decode cX10_read 45 = .ok (.aload_n 0, 1) := by decide +kernel
theorem dX10_read_46 : decode cX10_read 46 = .ok (.iload_n 2, 1) := by decide +kernel
theorem dX10_read_47 : decode cX10_read 47 = .ok (.iconst 1, 1) := by decide +kernel
theorem dX10_read_48 : decode cX10_read 48 = .ok (.iadd, 1) := by decide +kernel
theorem dX10_read_49 : decode cX10_read 49 = .ok (.putfield 27, 3) := by decide +kernel
theorem dX10_read_52 : decode cX10_read 52 = .ok (.iinc 2 1, 3) := by decide +kernel
theorem dX10_read_55 : decode cX10_read 55 = .ok (.goto (-43), 3) := by decide +kernel
theorem dX10_read_58 : decode cX10_read 58 = .ok (.aload_n 1, 1) := by decide +kernel
theorem dX10_read_59 : decode cX10_read 59 = .ok (.invokevirtual 38, 3) := by decide +kernel
theorem dX10_read_62 : decode cX10_read 62 = .ok (.ireturn, 1) := by decide +kernel
abbrev tl_X10_read_0 : List (Nat × oOp) := [(0, o_ald 1 1), (1, o_push (vI 0) 2), (2, o_putI [8] 2 5), (5, o_ald 0 6), (6, o_push (vI 0) 7), (7, o_putI [10] 5 10), (10, o_push (vI 0) 11), (11, o_ist 2 12), (12, o_ild 2 13), (13, o_push (vI 6) 15), (15, o_ic pGe 58 18), (18, o_ild 2 19), (19, o_if zLe 34 22), (22, o_ald 1 23), (23, o_push (vI 44) 25), (25, o_callo T_X8_take 8 1 0 0 0 0 28), (28, o_if zNe 34 31), (31, o_go 58), (34, o_ald 0 35), (35, o_ald 1 36), (36, o_ild 2 37), (37, o_callo T_X10_readStand 10 2 0 0 0 0 40), (40, o_if zNe 45 43), (43, o_push (vI 0) 44)]
abbrev tl_X10_read_1 : List (Nat × oOp) := [(44, o_retz 0 0), (45, o_ald 0 46), (46, o_ild 2 47), (47, o_push (vI 1) 48), (48, o_ib fAdd 49), (49, o_putI [10] 5 52), (52, o_inc 2 1 55), (55, o_go 12), (58, o_ald 1 59), (59, o_callo T_X8_atEnd 8 0 0 0 0 0 62), (62, o_retz 0 0)]
set_option maxRecDepth 20000 in
def tb_X10_read : Nat → oOp := oTab [(0, o_ald 1 1), (1, o_push (vI 0) 2), (2, o_putI [8] 2 5), (5, o_ald 0 6), (6, o_push (vI 0) 7), (7, o_putI [10] 5 10), (10, o_push (vI 0) 11), (11, o_ist 2 12), (12, o_ild 2 13), (13, o_push (vI 6) 15), (15, o_ic pGe 58 18), (18, o_ild 2 19), (19, o_if zLe 34 22), (22, o_ald 1 23), (23, o_push (vI 44) 25), (25, o_callo T_X8_take 8 1 0 0 0 0 28), (28, o_if zNe 34 31), (31, o_go 58), (34, o_ald 0 35), (35, o_ald 1 36), (36, o_ild 2 37), (37, o_callo T_X10_readStand 10 2 0 0 0 0 40), (40, o_if zNe 45 43), (43, o_push (vI 0) 44), (44, o_retz 0 0), (45, o_ald 0 46), (46, o_ild 2 47), (47, o_push (vI 1) 48), (48, o_ib fAdd 49), (49, o_putI [10] 5 52), (52, o_inc 2 1 55), (55, o_go 12), (58, o_ald 1 59), (59, o_callo T_X8_atEnd 8 0 0 0 0 0 62), (62, o_retz 0 0)]
def T_X10_read : List oA → oM → oQ → Prop := oT tb_X10_read 3
set_option maxRecDepth 20000 in
theorem sn_X10_read_0 {p : Program} {l : Launch} {e : Env} {s : State} {m : MethodId} {args : Array Value} {below : List Frame} {meth : Method} {c : Code} {D : va_G} {ids : Nat → ClassId} {b : Nat} {Q : oQ} (C : oCx p s m args c cX10_read 3 (yX10_read).cls D ids b) (hr : meth.sig.returnType = (some .boolean)) (hlk : meth.locks = false) (hnm : meth.name = (yX10_read).name) : ∀ q ∈ tl_X10_read_0, oSn (oW p l e (oRm 4 90 0 0) s m args below meth c 3 D ids b (oMQ D ids b below Q args s 0 0)) Q q.1 q.2 := List.forall_mem_cons.mpr ⟨so_aload_n C 1 rfl dX10_read_0, List.forall_mem_cons.mpr ⟨so_iconst C 0 rfl dX10_read_1, List.forall_mem_cons.mpr ⟨so_putI C [8] 2 (fd_RX10_21_8 C) (fn_8_2) (by decide) dX10_read_2, List.forall_mem_cons.mpr ⟨so_aload_n C 0 rfl dX10_read_5, List.forall_mem_cons.mpr ⟨so_iconst C 0 rfl dX10_read_6, List.forall_mem_cons.mpr ⟨so_putI C [10] 5 (fd_RX10_27_10 C) (fn_10_5) (by decide) dX10_read_7, List.forall_mem_cons.mpr ⟨so_iconst C 0 rfl dX10_read_10, List.forall_mem_cons.mpr ⟨so_istore_n C 2 rfl (by decide) dX10_read_11, List.forall_mem_cons.mpr ⟨so_iload_n C 2 rfl dX10_read_12, List.forall_mem_cons.mpr ⟨so_bipush C 6 rfl dX10_read_13, List.forall_mem_cons.mpr ⟨so_ic_ge C (by decide) dX10_read_15, List.forall_mem_cons.mpr ⟨so_iload_n C 2 rfl dX10_read_18, List.forall_mem_cons.mpr ⟨so_if_le C (by decide) dX10_read_19, List.forall_mem_cons.mpr ⟨so_aload_n C 1 rfl dX10_read_22, List.forall_mem_cons.mpr ⟨so_bipush C 44 rfl dX10_read_23, List.forall_mem_cons.mpr ⟨so_callV C (y := yX8_take) 8 1 0 0 (RX8, TX8, 3) (by decide) rfl rfl ⟨Nat.le_refl _, Nat.le_refl _⟩ (c_X8_take l D ids) kw_374 kw_423 kw_372 kw_373 kw_2 hy_X8_take ⟨Nat.le_of_ble_eq_true rfl, Nat.le_of_ble_eq_true rfl⟩ dX10_read_25, List.forall_mem_cons.mpr ⟨so_if_ne C (by decide) dX10_read_28, List.forall_mem_cons.mpr ⟨so_goto C (by decide) dX10_read_31, List.forall_mem_cons.mpr ⟨so_aload_n C 0 rfl dX10_read_34, List.forall_mem_cons.mpr ⟨so_aload_n C 1 rfl dX10_read_35, List.forall_mem_cons.mpr ⟨so_iload_n C 2 rfl dX10_read_36, List.forall_mem_cons.mpr ⟨so_callV C (y := yX10_readStand) 10 2 0 0 (RX10, TX10, 6) (by decide) rfl rfl ⟨Nat.le_refl _, Nat.le_refl _⟩ (c_X10_readStand l D ids) kw_427 kw_424 kw_426 kp_6 kw_6 hy_X10_readStand ⟨Nat.le_of_ble_eq_true rfl, Nat.le_of_ble_eq_true rfl⟩ dX10_read_37, List.forall_mem_cons.mpr ⟨so_if_ne C (by decide) dX10_read_40, List.forall_mem_cons.mpr ⟨so_iconst C 0 rfl dX10_read_43, fun _ h => absurd h List.not_mem_nil⟩⟩⟩⟩⟩⟩⟩⟩⟩⟩⟩⟩⟩⟩⟩⟩⟩⟩⟩⟩⟩⟩⟩⟩
set_option maxRecDepth 20000 in
theorem sn_X10_read_1 {p : Program} {l : Launch} {e : Env} {s : State} {m : MethodId} {args : Array Value} {below : List Frame} {meth : Method} {c : Code} {D : va_G} {ids : Nat → ClassId} {b : Nat} {Q : oQ} (C : oCx p s m args c cX10_read 3 (yX10_read).cls D ids b) (hr : meth.sig.returnType = (some .boolean)) (hlk : meth.locks = false) (hnm : meth.name = (yX10_read).name) : ∀ q ∈ tl_X10_read_1, oSn (oW p l e (oRm 4 90 0 0) s m args below meth c 3 D ids b (oMQ D ids b below Q args s 0 0)) Q q.1 q.2 := List.forall_mem_cons.mpr ⟨so_retz C 0 0 hr hlk dX10_read_44, List.forall_mem_cons.mpr ⟨so_aload_n C 0 rfl dX10_read_45, List.forall_mem_cons.mpr ⟨so_iload_n C 2 rfl dX10_read_46, List.forall_mem_cons.mpr ⟨so_iconst C 1 rfl dX10_read_47, List.forall_mem_cons.mpr ⟨so_iadd C dX10_read_48, List.forall_mem_cons.mpr ⟨so_putI C [10] 5 (fd_RX10_27_10 C) (fn_10_5) (by decide) dX10_read_49, List.forall_mem_cons.mpr ⟨so_iinc C 2 1 (by decide) dX10_read_52, List.forall_mem_cons.mpr ⟨so_goto C (by decide) dX10_read_55, List.forall_mem_cons.mpr ⟨so_aload_n C 1 rfl dX10_read_58, List.forall_mem_cons.mpr ⟨so_callV C (y := yX8_atEnd) 8 0 0 0 (RX8, TX8, 3) (by decide) rfl rfl ⟨Nat.le_refl _, Nat.le_refl _⟩ (c_X8_atEnd l D ids) kw_395 kw_430 kw_393 kw_394 kw_2 hy_X8_atEnd ⟨Nat.le_of_ble_eq_true rfl, Nat.le_of_ble_eq_true rfl⟩ dX10_read_59, List.forall_mem_cons.mpr ⟨so_retz C 0 0 hr hlk dX10_read_62, fun _ h => absurd h List.not_mem_nil⟩⟩⟩⟩⟩⟩⟩⟩⟩⟩⟩
set_option maxRecDepth 20000 in
theorem c_X10_read (l : Launch) (D : va_G) (ids : Nat → ClassId) : oMT l D ids yX10_read cX10_read 3 (some .boolean) 4 90 0 0 T_X10_read := oMet l D ids tb_X10_read (by decide) (fun p e s m args below meth c b Q C hr hlk hnm => oTab_all (tl_X10_read_0 ++ (tl_X10_read_1)) (List.forall_mem_append.mpr ⟨sn_X10_read_0 C hr hlk hnm, sn_X10_read_1 C hr hlk hnm⟩))
theorem dX10_takesOneMore_0 : decode cX10_takesOneMore 0 = .ok (.iconst 0, 1) := by decide +kernel
theorem dX10_takesOneMore_1 : decode cX10_takesOneMore 1 = .ok (.ireturn, 1) := by decide +kernel
abbrev tl_X10_takesOneMore_0 : List (Nat × oOp) := [(0, o_push (vI 0) 1), (1, o_retz 0 0)]
set_option maxRecDepth 20000 in
def tb_X10_takesOneMore : Nat → oOp := oTab [(0, o_push (vI 0) 1), (1, o_retz 0 0)]
def T_X10_takesOneMore : List oA → oM → oQ → Prop := oT tb_X10_takesOneMore 1
set_option maxRecDepth 20000 in
theorem sn_X10_takesOneMore_0 {p : Program} {l : Launch} {e : Env} {s : State} {m : MethodId} {args : Array Value} {below : List Frame} {meth : Method} {c : Code} {D : va_G} {ids : Nat → ClassId} {b : Nat} {Q : oQ} (C : oCx p s m args c cX10_takesOneMore 1 (yX10_takesOneMore).cls D ids b) (hr : meth.sig.returnType = (some .boolean)) (hlk : meth.locks = false) (hnm : meth.name = (yX10_takesOneMore).name) : ∀ q ∈ tl_X10_takesOneMore_0, oSn (oW p l e (oRm 0 0 0 0) s m args below meth c 1 D ids b (oMQ D ids b below Q args s 0 0)) Q q.1 q.2 := List.forall_mem_cons.mpr ⟨so_iconst C 0 rfl dX10_takesOneMore_0, List.forall_mem_cons.mpr ⟨so_retz C 0 0 hr hlk dX10_takesOneMore_1, fun _ h => absurd h List.not_mem_nil⟩⟩
set_option maxRecDepth 20000 in
theorem c_X10_takesOneMore (l : Launch) (D : va_G) (ids : Nat → ClassId) : oMT l D ids yX10_takesOneMore cX10_takesOneMore 1 (some .boolean) 0 0 0 0 T_X10_takesOneMore := oMet l D ids tb_X10_takesOneMore (by decide) (fun p e s m args below meth c b Q C hr hlk hnm => oTab_all (tl_X10_takesOneMore_0) (sn_X10_takesOneMore_0 C hr hlk hnm))
theorem dX1_settle_0 : decode cX1_settle 0 = .ok (.aload_n 1, 1) := by decide +kernel
theorem dX1_settle_1 : decode cX1_settle 1 = .ok (.getfield 50, 3) := by decide +kernel
theorem dX1_settle_4 : decode cX1_settle 4 = .ok (.iconst 0, 1) := by decide +kernel
theorem dX1_settle_5 : decode cX1_settle 5 = .ok (.putfield 54, 3) := by decide +kernel
theorem dX1_settle_8 : decode cX1_settle 8 = .ok (.iload 4, 2) := by decide +kernel
theorem dX1_settle_10 : decode cX1_settle 10 = .ok (.ifCond .lt 10, 3) := by decide +kernel
theorem dX1_settle_13 : decode cX1_settle 13 = .ok (.iload 4, 2) := by decide +kernel
theorem dX1_settle_15 : decode cX1_settle 15 = .ok (.bipush 64, 2) := by decide +kernel
theorem dX1_settle_17 : decode cX1_settle 17 = .ok (.if_icmp .lt 4, 3) := by decide +kernel
theorem dX1_settle_20 : decode cX1_settle 20 = .ok (.return_, 1) := by decide +kernel
theorem dX1_settle_21 : decode cX1_settle 21 = .ok (.iload 4, 2) := by decide +kernel
theorem dX1_settle_23 : decode cX1_settle 23 = .ok (.bipush 8, 2) := by decide +kernel
theorem dX1_settle_25 : decode cX1_settle 25 = .ok (.idiv, 1) := by decide +kernel
theorem dX1_settle_26 : decode cX1_settle 26 = .ok (.istore 5, 2) := by decide +kernel
theorem dX1_settle_28 : decode cX1_settle 28 = .ok (.iload 4, 2) := by decide +kernel
theorem dX1_settle_30 : decode cX1_settle 30 = .ok (.bipush 8, 2) := by decide +kernel
theorem dX1_settle_32 : decode cX1_settle 32 = .ok (.irem, 1) := by decide +kernel
theorem dX1_settle_33 : decode cX1_settle 33 = .ok (.istore 6, 2) := by decide +kernel
theorem dX1_settle_35 : decode cX1_settle 35 = .ok (.aload_n 1, 1) := by decide +kernel
theorem dX1_settle_36 : decode cX1_settle 36 = .ok (.getfield 50, 3) := by decide +kernel
theorem dX1_settle_39 : decode cX1_settle 39 = .ok (.aload_n 2, 1) := by decide +kernel
theorem dX1_settle_40 : decode cX1_settle 40 = .ok (.aload_n 3, 1) := by decide +kernel
theorem dX1_settle_41 : decode cX1_settle 41 = .ok (.iload 5, 2) := by decide +kernel
theorem dX1_settle_43 : decode cX1_settle 43 = .ok (.iload 5, 2) := by decide +kernel
theorem dX1_settle_45 : decode cX1_settle 45 = .ok (.bipush 10, 2) := by decide +kernel
theorem dX1_settle_47 : decode cX1_settle 47 = .ok (.invokevirtual 59, 3) := by decide +kernel
theorem dX1_settle_50 : decode cX1_settle 50 = .ok (.aload_n 0, 1) := by decide +kernel
theorem dX1_settle_51 : decode cX1_settle 51 = .ok (.getfield 25, 3) := by decide +kernel
theorem dX1_settle_54 : decode cX1_settle 54 = .ok (.iconst 1, 1) := by decide +kernel
theorem dX1_settle_55 : decode cX1_settle 55 = .ok (.if_icmp .le 18, 3) := by decide +kernel
theorem dX1_settle_58 : decode cX1_settle 58 = .ok (.aload_n 1, 1) := by decide +kernel
theorem dX1_settle_59 : decode cX1_settle 59 = .ok (.getfield 50, 3) := by decide +kernel
theorem dX1_settle_62 : decode cX1_settle 62 = .ok (.aload_n 2, 1) := by decide +kernel
theorem dX1_settle_63 : decode cX1_settle 63 = .ok (.aload_n 3, 1) := by decide +kernel
theorem dX1_settle_64 : decode cX1_settle 64 = .ok (.iload 6, 2) := by decide +kernel
theorem dX1_settle_66 : decode cX1_settle 66 = .ok (.iload 6, 2) := by decide +kernel
theorem dX1_settle_68 : decode cX1_settle 68 = .ok (.bipush 10, 2) := by decide +kernel
theorem dX1_settle_70 : decode cX1_settle 70 = .ok (.invokevirtual 59, 3) := by decide +kernel
theorem dX1_settle_73 : decode cX1_settle 73 = .ok (.return_, 1) := by decide +kernel
abbrev tl_X1_settle_0 : List (Nat × oOp) := [(0, o_ald 1 1), (1, o_getR [2] 0 4), (4, o_push (vI 0) 5), (5, o_putI [9] 3 8), (8, o_ild 4 10), (10, o_if zLt 20 13), (13, o_ild 4 15), (15, o_push (vI 64) 17), (17, o_ic pLt 21 20), (20, o_ret0 0 0), (21, o_ild 4 23), (23, o_push (vI 8) 25), (25, o_div 26), (26, o_ist 5 28), (28, o_ild 4 30), (30, o_push (vI 8) 32), (32, o_rem 33), (33, o_ist 6 35), (35, o_ald 1 36), (36, o_getR [2] 0 39), (39, o_ald 2 40), (40, o_ald 3 41), (41, o_ild 5 43), (43, o_ild 5 45)]
abbrev tl_X1_settle_1 : List (Nat × oOp) := [(45, o_push (vI 10) 47), (47, o_callo T_X9_add 9 5 0 0 0 0 50), (50, o_ald 0 51), (51, o_getI [1] 0 54), (54, o_push (vI 1) 55), (55, o_ic pLe 73 58), (58, o_ald 1 59), (59, o_getR [2] 0 62), (62, o_ald 2 63), (63, o_ald 3 64), (64, o_ild 6 66), (66, o_ild 6 68), (68, o_push (vI 10) 70), (70, o_callo T_X9_add 9 5 0 0 0 0 73), (73, o_ret0 0 0)]
set_option maxRecDepth 20000 in
def tb_X1_settle : Nat → oOp := oTab [(0, o_ald 1 1), (1, o_getR [2] 0 4), (4, o_push (vI 0) 5), (5, o_putI [9] 3 8), (8, o_ild 4 10), (10, o_if zLt 20 13), (13, o_ild 4 15), (15, o_push (vI 64) 17), (17, o_ic pLt 21 20), (20, o_ret0 0 0), (21, o_ild 4 23), (23, o_push (vI 8) 25), (25, o_div 26), (26, o_ist 5 28), (28, o_ild 4 30), (30, o_push (vI 8) 32), (32, o_rem 33), (33, o_ist 6 35), (35, o_ald 1 36), (36, o_getR [2] 0 39), (39, o_ald 2 40), (40, o_ald 3 41), (41, o_ild 5 43), (43, o_ild 5 45), (45, o_push (vI 10) 47), (47, o_callo T_X9_add 9 5 0 0 0 0 50), (50, o_ald 0 51), (51, o_getI [1] 0 54), (54, o_push (vI 1) 55), (55, o_ic pLe 73 58), (58, o_ald 1 59), (59, o_getR [2] 0 62), (62, o_ald 2 63), (63, o_ald 3 64), (64, o_ild 6 66), (66, o_ild 6 68), (68, o_push (vI 10) 70), (70, o_callo T_X9_add 9 5 0 0 0 0 73), (73, o_ret0 0 0)]
def T_X1_settle : List oA → oM → oQ → Prop := oT tb_X1_settle 7
set_option maxRecDepth 20000 in
theorem sn_X1_settle_0 {p : Program} {l : Launch} {e : Env} {s : State} {m : MethodId} {args : Array Value} {below : List Frame} {meth : Method} {c : Code} {D : va_G} {ids : Nat → ClassId} {b : Nat} {Q : oQ} (C : oCx p s m args c cX1_settle 7 (yX1_settle).cls D ids b) (hr : meth.sig.returnType = none) (hlk : meth.locks = false) (hnm : meth.name = (yX1_settle).name) : ∀ q ∈ tl_X1_settle_0, oSn (oW p l e (oRm 2 51 0 0) s m args below meth c 7 D ids b (oMQ D ids b below Q args s 0 0)) Q q.1 q.2 := List.forall_mem_cons.mpr ⟨so_aload_n C 1 rfl dX1_settle_0, List.forall_mem_cons.mpr ⟨so_getR C [2] 0 (fd_RX1_50_2 C) (ft_2_0) dX1_settle_1, List.forall_mem_cons.mpr ⟨so_iconst C 0 rfl dX1_settle_4, List.forall_mem_cons.mpr ⟨so_putI C [9] 3 (fd_RX1_54_9 C) (fn_9_3) (by decide) dX1_settle_5, List.forall_mem_cons.mpr ⟨so_iload C 4 dX1_settle_8, List.forall_mem_cons.mpr ⟨so_if_lt C (by decide) dX1_settle_10, List.forall_mem_cons.mpr ⟨so_iload C 4 dX1_settle_13, List.forall_mem_cons.mpr ⟨so_bipush C 64 rfl dX1_settle_15, List.forall_mem_cons.mpr ⟨so_ic_lt C (by decide) dX1_settle_17, List.forall_mem_cons.mpr ⟨so_ret0 C 0 0 hr hlk dX1_settle_20, List.forall_mem_cons.mpr ⟨so_iload C 4 dX1_settle_21, List.forall_mem_cons.mpr ⟨so_bipush C 8 rfl dX1_settle_23, List.forall_mem_cons.mpr ⟨so_idiv C dX1_settle_25, List.forall_mem_cons.mpr ⟨so_istore C 5 (by decide) dX1_settle_26, List.forall_mem_cons.mpr ⟨so_iload C 4 dX1_settle_28, List.forall_mem_cons.mpr ⟨so_bipush C 8 rfl dX1_settle_30, List.forall_mem_cons.mpr ⟨so_irem C dX1_settle_32, List.forall_mem_cons.mpr ⟨so_istore C 6 (by decide) dX1_settle_33, List.forall_mem_cons.mpr ⟨so_aload_n C 1 rfl dX1_settle_35, List.forall_mem_cons.mpr ⟨so_getR C [2] 0 (fd_RX1_50_2 C) (ft_2_0) dX1_settle_36, List.forall_mem_cons.mpr ⟨so_aload_n C 2 rfl dX1_settle_39, List.forall_mem_cons.mpr ⟨so_aload_n C 3 rfl dX1_settle_40, List.forall_mem_cons.mpr ⟨so_iload C 5 dX1_settle_41, List.forall_mem_cons.mpr ⟨so_iload C 5 dX1_settle_43, fun _ h => absurd h List.not_mem_nil⟩⟩⟩⟩⟩⟩⟩⟩⟩⟩⟩⟩⟩⟩⟩⟩⟩⟩⟩⟩⟩⟩⟩⟩
set_option maxRecDepth 20000 in
theorem sn_X1_settle_1 {p : Program} {l : Launch} {e : Env} {s : State} {m : MethodId} {args : Array Value} {below : List Frame} {meth : Method} {c : Code} {D : va_G} {ids : Nat → ClassId} {b : Nat} {Q : oQ} (C : oCx p s m args c cX1_settle 7 (yX1_settle).cls D ids b) (hr : meth.sig.returnType = none) (hlk : meth.locks = false) (hnm : meth.name = (yX1_settle).name) : ∀ q ∈ tl_X1_settle_1, oSn (oW p l e (oRm 2 51 0 0) s m args below meth c 7 D ids b (oMQ D ids b below Q args s 0 0)) Q q.1 q.2 := List.forall_mem_cons.mpr ⟨so_bipush C 10 rfl dX1_settle_45, List.forall_mem_cons.mpr ⟨so_callV C (y := yX9_add) 9 5 0 0 (RX9, TX9, 4) (by decide) rfl rfl ⟨Nat.le_refl _, Nat.le_refl _⟩ (c_X9_add l D ids) kw_573 kw_570 kw_571 kw_572 kw_8 hy_X9_add ⟨Nat.le_of_ble_eq_true rfl, Nat.le_of_ble_eq_true rfl⟩ dX1_settle_47, List.forall_mem_cons.mpr ⟨so_aload_n C 0 rfl dX1_settle_50, List.forall_mem_cons.mpr ⟨so_getI C [1] 0 (fd_RX1_25_1 C) (by decide) dX1_settle_51, List.forall_mem_cons.mpr ⟨so_iconst C 1 rfl dX1_settle_54, List.forall_mem_cons.mpr ⟨so_ic_le C (by decide) dX1_settle_55, List.forall_mem_cons.mpr ⟨so_aload_n C 1 rfl dX1_settle_58, List.forall_mem_cons.mpr ⟨so_getR C [2] 0 (fd_RX1_50_2 C) (ft_2_0) dX1_settle_59, List.forall_mem_cons.mpr ⟨so_aload_n C 2 rfl dX1_settle_62, List.forall_mem_cons.mpr ⟨so_aload_n C 3 rfl dX1_settle_63, List.forall_mem_cons.mpr ⟨so_iload C 6 dX1_settle_64, List.forall_mem_cons.mpr ⟨so_iload C 6 dX1_settle_66, List.forall_mem_cons.mpr ⟨so_bipush C 10 rfl dX1_settle_68, List.forall_mem_cons.mpr ⟨so_callV C (y := yX9_add) 9 5 0 0 (RX9, TX9, 4) (by decide) rfl rfl ⟨Nat.le_refl _, Nat.le_refl _⟩ (c_X9_add l D ids) kw_573 kw_570 kw_571 kw_572 kw_8 hy_X9_add ⟨Nat.le_of_ble_eq_true rfl, Nat.le_of_ble_eq_true rfl⟩ dX1_settle_70, List.forall_mem_cons.mpr ⟨so_ret0 C 0 0 hr hlk dX1_settle_73, fun _ h => absurd h List.not_mem_nil⟩⟩⟩⟩⟩⟩⟩⟩⟩⟩⟩⟩⟩⟩⟩
set_option maxRecDepth 20000 in
theorem c_X1_settle (l : Launch) (D : va_G) (ids : Nat → ClassId) : oMT l D ids yX1_settle cX1_settle 7 none 2 51 0 0 T_X1_settle := oMet l D ids tb_X1_settle (by decide) (fun p e s m args below meth c b Q C hr hlk hnm => oTab_all (tl_X1_settle_0 ++ (tl_X1_settle_1)) (List.forall_mem_append.mpr ⟨sn_X1_settle_0 C hr hlk hnm, sn_X1_settle_1 C hr hlk hnm⟩))
theorem dX6_wayOn_0 : decode cX6_wayOn 0 = .ok (.iconst 1, 1) := by decide +kernel
theorem dX6_wayOn_1 : decode cX6_wayOn 1 = .ok (.aload_n 0, 1) := by decide +kernel
theorem dX6_wayOn_2 : decode cX6_wayOn 2 = .ok (.getfield 30, 3) := by decide +kernel
theorem dX6_wayOn_5 : decode cX6_wayOn 5 = .ok (.ishl, 1) := by decide +kernel
theorem dX6_wayOn_6 : decode cX6_wayOn 6 = .ok (.iconst 1, 1) := by decide +kernel
theorem dX6_wayOn_7 : decode cX6_wayOn 7 = .ok (.isub, 1) := by decide +kernel
theorem dX6_wayOn_8 : decode cX6_wayOn 8 = .ok (.ireturn, 1) := by decide +kernel
abbrev tl_X6_wayOn_0 : List (Nat × oOp) := [(0, o_push (vI 1) 1), (1, o_ald 0 2), (2, o_getI [6] 1 5), (5, o_ib fShl 6), (6, o_push (vI 1) 7), (7, o_ib fSub 8), (8, o_reti 0 0)]
set_option maxRecDepth 20000 in
def tb_X6_wayOn : Nat → oOp := oTab [(0, o_push (vI 1) 1), (1, o_ald 0 2), (2, o_getI [6] 1 5), (5, o_ib fShl 6), (6, o_push (vI 1) 7), (7, o_ib fSub 8), (8, o_reti 0 0)]
def T_X6_wayOn : List oA → oM → oQ → Prop := oT tb_X6_wayOn 1
set_option maxRecDepth 20000 in
theorem sn_X6_wayOn_0 {p : Program} {l : Launch} {e : Env} {s : State} {m : MethodId} {args : Array Value} {below : List Frame} {meth : Method} {c : Code} {D : va_G} {ids : Nat → ClassId} {b : Nat} {Q : oQ} (C : oCx p s m args c cX6_wayOn 1 (yX6_wayOn).cls D ids b) (hr : meth.sig.returnType = (some .int)) (hlk : meth.locks = false) (hnm : meth.name = (yX6_wayOn).name) : ∀ q ∈ tl_X6_wayOn_0, oSn (oW p l e (oRm 0 0 0 0) s m args below meth c 1 D ids b (oMQ D ids b below Q args s 0 0)) Q q.1 q.2 := List.forall_mem_cons.mpr ⟨so_iconst C 1 rfl dX6_wayOn_0, List.forall_mem_cons.mpr ⟨so_aload_n C 0 rfl dX6_wayOn_1, List.forall_mem_cons.mpr ⟨so_getI C [6] 1 (fd_RX6_30_6 C) (by decide) dX6_wayOn_2, List.forall_mem_cons.mpr ⟨so_ishl C dX6_wayOn_5, List.forall_mem_cons.mpr ⟨so_iconst C 1 rfl dX6_wayOn_6, List.forall_mem_cons.mpr ⟨so_isub C dX6_wayOn_7, List.forall_mem_cons.mpr ⟨so_reti C 0 0 hr hlk dX6_wayOn_8, fun _ h => absurd h List.not_mem_nil⟩⟩⟩⟩⟩⟩⟩
set_option maxRecDepth 20000 in
theorem c_X6_wayOn (l : Launch) (D : va_G) (ids : Nat → ClassId) : oMT l D ids yX6_wayOn cX6_wayOn 1 (some .int) 0 0 0 0 T_X6_wayOn := oMet l D ids tb_X6_wayOn (by decide) (fun p e s m args below meth c b Q C hr hlk hnm => oTab_all (tl_X6_wayOn_0) (sn_X6_wayOn_0 C hr hlk hnm))
theorem dX7_clear_0 : decode cX7_clear 0 = .ok (.aload_n 0, 1) := by decide +kernel
theorem dX7_clear_1 : decode cX7_clear 1 = .ok (.iload_n 1, 1) := by decide +kernel
theorem dX7_clear_2 : decode cX7_clear 2 = .ok (.sipush 324, 3) := by decide +kernel
theorem dX7_clear_5 : decode cX7_clear 5 = .ok (.invokestatic 42, 3) := by decide +kernel
theorem dX7_clear_8 : decode cX7_clear 8 = .ok (.putfield 48, 3) := by decide +kernel
theorem dX7_clear_11 : decode cX7_clear 11 = .ok (.aload_n 0, 1) := by decide +kernel
theorem dX7_clear_12 : decode cX7_clear 12 = .ok (.iload_n 2, 1) := by decide +kernel
theorem dX7_clear_13 : decode cX7_clear 13 = .ok (.putfield 52, 3) := by decide +kernel
theorem dX7_clear_16 : decode cX7_clear 16 = .ok (.aload_n 0, 1) := by decide +kernel
theorem dX7_clear_17 : decode cX7_clear 17 = .ok (.iconst 0, 1) := by decide +kernel
theorem dX7_clear_18 : decode cX7_clear 18 = .ok (.putfield 56, 3) := by decide +kernel
theorem dX7_clear_21 : decode cX7_clear 21 = .ok (.aload_n 0, 1) := by decide +kernel
theorem dX7_clear_22 : decode cX7_clear 22 = .ok (.iconst 0, 1) := by decide +kernel
theorem dX7_clear_23 : decode cX7_clear 23 = .ok (.putfield 59, 3) := by decide +kernel
theorem dX7_clear_26 : decode cX7_clear 26 = .ok (.aload_n 0, 1) := by decide +kernel
theorem dX7_clear_27 : decode cX7_clear 27 = .ok (.iconst 0, 1) := by decide +kernel
theorem dX7_clear_28 : decode cX7_clear 28 = .ok (.putfield 62, 3) := by decide +kernel
theorem dX7_clear_31 : decode cX7_clear 31 = .ok (.aload_n 0, 1) := by decide +kernel
theorem dX7_clear_32 : decode cX7_clear 32 = .ok (.getfield 26, 3) := by decide +kernel
theorem dX7_clear_35 : decode cX7_clear 35 = .ok (.iconst (-1), 1) := by decide +kernel
theorem dX7_clear_36 : decode cX7_clear 36 = .ok (.invokestatic 65, 3) := by decide +kernel
theorem dX7_clear_39 : decode cX7_clear 39 = .ok (.return_, 1) := by decide +kernel
abbrev tl_X7_clear_0 : List (Nat × oOp) := [(0, o_ald 0 1), (1, o_ild 1 2), (2, o_push (vI 324) 5), (5, o_math2 fMin 0 0 8), (8, o_putI [7] 9 11), (11, o_ald 0 12), (12, o_ild 2 13), (13, o_putZ [7] 13 16), (16, o_ald 0 17), (17, o_push (vI 0) 18), (18, o_putI [7] 10 21), (21, o_ald 0 22), (22, o_push (vI 0) 23), (23, o_putI [7] 11 26), (26, o_ald 0 27), (27, o_push (vI 0) 28), (28, o_putI [7] 12 31), (31, o_ald 0 32), (32, o_getR [7] 4 35), (35, o_push (vI (-1)) 36), (36, o_call T_J7_fill_53178 2 0 0 0 0 39), (39, o_ret0 0 0)]
set_option maxRecDepth 20000 in
def tb_X7_clear : Nat → oOp := oTab [(0, o_ald 0 1), (1, o_ild 1 2), (2, o_push (vI 324) 5), (5, o_math2 fMin 0 0 8), (8, o_putI [7] 9 11), (11, o_ald 0 12), (12, o_ild 2 13), (13, o_putZ [7] 13 16), (16, o_ald 0 17), (17, o_push (vI 0) 18), (18, o_putI [7] 10 21), (21, o_ald 0 22), (22, o_push (vI 0) 23), (23, o_putI [7] 11 26), (26, o_ald 0 27), (27, o_push (vI 0) 28), (28, o_putI [7] 12 31), (31, o_ald 0 32), (32, o_getR [7] 4 35), (35, o_push (vI (-1)) 36), (36, o_call T_J7_fill_53178 2 0 0 0 0 39), (39, o_ret0 0 0)]
def T_X7_clear : List oA → oM → oQ → Prop := oT tb_X7_clear 3
set_option maxRecDepth 20000 in
theorem sn_X7_clear_0 {p : Program} {l : Launch} {e : Env} {s : State} {m : MethodId} {args : Array Value} {below : List Frame} {meth : Method} {c : Code} {D : va_G} {ids : Nat → ClassId} {b : Nat} {Q : oQ} (C : oCx p s m args c cX7_clear 3 (yX7_clear).cls D ids b) (hr : meth.sig.returnType = none) (hlk : meth.locks = false) (hnm : meth.name = (yX7_clear).name) : ∀ q ∈ tl_X7_clear_0, oSn (oW p l e (oRm 1 23 0 0) s m args below meth c 3 D ids b (oMQ D ids b below Q args s 0 0)) Q q.1 q.2 := List.forall_mem_cons.mpr ⟨so_aload_n C 0 rfl dX7_clear_0, List.forall_mem_cons.mpr ⟨so_iload_n C 1 rfl dX7_clear_1, List.forall_mem_cons.mpr ⟨so_sipush C 324 rfl dX7_clear_2, List.forall_mem_cons.mpr ⟨so_min C 0 0 ⟨Nat.le_refl _, Nat.le_refl _⟩ kw_589 kw_417 kw_12 kw_418 (by decide) (by decide) dX7_clear_5, List.forall_mem_cons.mpr ⟨so_putI C [7] 9 (fd_RX7_48_7 C) (fn_7_9) (by decide) dX7_clear_8, List.forall_mem_cons.mpr ⟨so_aload_n C 0 rfl dX7_clear_11, List.forall_mem_cons.mpr ⟨so_iload_n C 2 rfl dX7_clear_12, List.forall_mem_cons.mpr ⟨so_putZ C [7] 13 (fd_RX7_52_7 C) (fn_7_13) (by decide) dX7_clear_13, List.forall_mem_cons.mpr ⟨so_aload_n C 0 rfl dX7_clear_16, List.forall_mem_cons.mpr ⟨so_iconst C 0 rfl dX7_clear_17, List.forall_mem_cons.mpr ⟨so_putI C [7] 10 (fd_RX7_56_7 C) (fn_7_10) (by decide) dX7_clear_18, List.forall_mem_cons.mpr ⟨so_aload_n C 0 rfl dX7_clear_21, List.forall_mem_cons.mpr ⟨so_iconst C 0 rfl dX7_clear_22, List.forall_mem_cons.mpr ⟨so_putI C [7] 11 (fd_RX7_59_7 C) (fn_7_11) (by decide) dX7_clear_23, List.forall_mem_cons.mpr ⟨so_aload_n C 0 rfl dX7_clear_26, List.forall_mem_cons.mpr ⟨so_iconst C 0 rfl dX7_clear_27, List.forall_mem_cons.mpr ⟨so_putI C [7] 12 (fd_RX7_62_7 C) (fn_7_12) (by decide) dX7_clear_28, List.forall_mem_cons.mpr ⟨so_aload_n C 0 rfl dX7_clear_31, List.forall_mem_cons.mpr ⟨so_getR C [7] 4 (fd_RX7_26_7 C) (ft_7_4) dX7_clear_32, List.forall_mem_cons.mpr ⟨so_iconst C (-1) rfl dX7_clear_35, List.forall_mem_cons.mpr ⟨so_callS C (y := yJ7_fill_53178) 2 0 0 ⟨Nat.le_refl _, Nat.le_refl _⟩ (c_J7_fill_53178 l D ids) kw_287 kw_590 kw_286 kw_10 hy_J7_fill_53178 ⟨Nat.le_of_ble_eq_true rfl, Nat.le_of_ble_eq_true rfl⟩ dX7_clear_36, List.forall_mem_cons.mpr ⟨so_ret0 C 0 0 hr hlk dX7_clear_39, fun _ h => absurd h List.not_mem_nil⟩⟩⟩⟩⟩⟩⟩⟩⟩⟩⟩⟩⟩⟩⟩⟩⟩⟩⟩⟩⟩⟩
set_option maxRecDepth 20000 in
theorem c_X7_clear (l : Launch) (D : va_G) (ids : Nat → ClassId) : oMT l D ids yX7_clear cX7_clear 3 none 1 23 0 0 T_X7_clear := oMet l D ids tb_X7_clear (by decide) (fun p e s m args below meth c b Q C hr hlk hnm => oTab_all (tl_X7_clear_0) (sn_X7_clear_0 C hr hlk hnm))
theorem dX6_walk_0 : decode cX6_walk 0 = .ok (.iconst 0, 1) := by decide +kernel
theorem dX6_walk_1 : decode cX6_walk 1 = .ok (.istore 4, 2) := by decide +kernel
theorem dX6_walk_3 : decode cX6_walk 3 = .ok (.iconst 0, 1) := by decide +kernel
theorem dX6_walk_4 : decode cX6_walk 4 = .ok (.istore 5, 2) := by decide +kernel
theorem dX6_walk_6 : decode cX6_walk 6 = .ok (.iconst 0, 1) := by decide +kernel
theorem dX6_walk_7 : decode cX6_walk 7 = .ok (.istore 6, 2) := by decide +kernel
theorem dX6_walk_9 : decode cX6_walk 9 = .ok (.iload 6, 2) := by decide +kernel
theorem dX6_walk_11 : decode cX6_walk 11 = .ok (.aload_n 0, 1) := by decide +kernel
theorem dX6_walk_12 : decode cX6_walk 12 = .ok (.getfield 27, 3) := by decide +kernel
theorem dX6_walk_15 : decode cX6_walk 15 = .ok (.if_icmp .ge 65, 3) := by decide +kernel
theorem dX6_walk_18 : decode cX6_walk 18 = .ok (.iload 6, 2) := by decide +kernel
theorem dX6_walk_20 : decode cX6_walk 20 = .ok (.aload_n 3, 1) := by decide +kernel
theorem dX6_walk_21 : decode cX6_walk 21 = .ok (.arraylength, 1) := by decide +kernel
theorem dX6_walk_22 : decode cX6_walk 22 = .ok (.if_icmp .ge 58, 3) := by decide +kernel
theorem dX6_walk_25 : decode cX6_walk 25 = .ok (.aload_n 0, 1) := by decide +kernel
theorem dX6_walk_26 : decode cX6_walk 26 = .ok (.getfield 15, 3) := by decide +kernel
theorem dX6_walk_29 : decode cX6_walk 29 = .ok (.iload 6, 2) := by decide +kernel
theorem dX6_walk_31 : decode cX6_walk 31 = .ok (.iaload, 1) := by decide +kernel
theorem dX6_walk_32 : decode cX6_walk 32 = .ok (.istore 7, 2) := by decide +kernel
theorem dX6_walk_34 : decode cX6_walk 34 = .ok (.iload 7, 2) := by decide +kernel
theorem dX6_walk_36 : decode cX6_walk 36 = .ok (.iconst 2, 1) := by decide +kernel
theorem dX6_walk_37 : decode cX6_walk 37 = .ok (.if_icmp .ne 14, 3) := by decide +kernel
theorem dX6_walk_40 : decode cX6_walk 40 = .ok (.iload_n 2, 1) := by decide +kernel
theorem dX6_walk_41 : decode cX6_walk 41 = .ok (.iload 5, 2) := by decide +kernel
theorem dX6_walk_43 : decode cX6_walk 43 = .ok (.ishr, 1) := by decide +kernel
theorem dX6_walk_44 : decode cX6_walk 44 = .ok (.iconst 1, 1) := by decide +kernel
theorem dX6_walk_45 : decode cX6_walk 45 = .ok (.iand, 1) := by decide +kernel
theorem dX6_walk_46 : decode cX6_walk 46 = .ok (.istore 7, 2) := by decide +kernel
theorem dX6_walk_48 : decode cX6_walk 48 = .ok (.iinc 5 1, 3) := by decide +kernel
theorem dX6_walk_51 : decode cX6_walk 51 = .ok (.iconst 0, 1) := by decide +kernel
theorem dX6_walk_52 : decode cX6_walk 52 = .ok (.iload_n 1, 1) := by decide +kernel
theorem dX6_walk_53 : decode cX6_walk 53 = .ok (.iconst 1, 1) := by decide +kernel
theorem dX6_walk_54 : decode cX6_walk 54 = .ok (.isub, 1) := by decide +kernel
theorem dX6_walk_55 : decode cX6_walk 55 = .ok (.iload 4, 2) := by decide +kernel
theorem dX6_walk_57 : decode cX6_walk 57 = .ok (.iload 7, 2) := by decide +kernel
theorem dX6_walk_59 : decode cX6_walk 59 = .ok (.iadd, 1) := by decide +kernel
theorem dX6_walk_60 : decode cX6_walk 60 = .ok (.invokestatic 59, 3) := by decide +kernel
theorem dX6_walk_63 : decode cX6_walk 63 = .ok (.invokestatic 68, 3) := by decide +kernel
theorem dX6_walk_66 : decode cX6_walk 66 = .ok (.istore 4, 2) := by decide +kernel
theorem dX6_walk_68 : decode cX6_walk 68 = .ok (.aload_n 3, 1) := by decide +kernel
theorem dX6_walk_69 : decode cX6_walk 69 = .ok (.iload 6, 2) := by decide +kernel
theorem dX6_walk_71 : decode cX6_walk 71 = .ok (.iload 4, 2) := by decide +kernel
theorem dX6_walk_73 : decode cX6_walk 73 = .ok (.iastore, 1) := by decide +kernel
theorem dX6_walk_74 : decode cX6_walk 74 = .ok (.iinc 6 1, 3) := by decide +kernel
theorem dX6_walk_77 : decode cX6_walk 77 = .ok (.goto (-68), 3) := by decide +kernel
theorem dX6_walk_80 : decode cX6_walk 80 = .ok (.return_, 1) := by decide +kernel
abbrev tl_X6_walk_0 : List (Nat × oOp) := [(0, o_push (vI 0) 1), (1, o_ist 4 3), (3, o_push (vI 0) 4), (4, o_ist 5 6), (6, o_push (vI 0) 7), (7, o_ist 6 9), (9, o_ild 6 11), (11, o_ald 0 12), (12, o_getI [6] 0 15), (15, o_ic pGe 80 18), (18, o_ild 6 20), (20, o_ald 3 21), (21, o_alen 22), (22, o_ic pGe 80 25), (25, o_ald 0 26), (26, o_getR [6] 3 29), (29, o_ild 6 31), (31, o_xald 13 32), (32, o_ist 7 34), (34, o_ild 7 36), (36, o_push (vI 2) 37), (37, o_ic pNe 51 40), (40, o_ild 2 41), (41, o_ild 5 43)]
abbrev tl_X6_walk_1 : List (Nat × oOp) := [(43, o_ib fShr 44), (44, o_push (vI 1) 45), (45, o_ib fAnd 46), (46, o_ist 7 48), (48, o_inc 5 1 51), (51, o_push (vI 0) 52), (52, o_ild 1 53), (53, o_push (vI 1) 54), (54, o_ib fSub 55), (55, o_ild 4 57), (57, o_ild 7 59), (59, o_ib fAdd 60), (60, o_math2 fMin 0 0 63), (63, o_math2 fMax 0 0 66), (66, o_ist 4 68), (68, o_ald 3 69), (69, o_ild 6 71), (71, o_ild 4 73), (73, o_iast 74), (74, o_inc 6 1 77), (77, o_go 9), (80, o_ret0 0 0)]
set_option maxRecDepth 20000 in
def tb_X6_walk : Nat → oOp := oTab [(0, o_push (vI 0) 1), (1, o_ist 4 3), (3, o_push (vI 0) 4), (4, o_ist 5 6), (6, o_push (vI 0) 7), (7, o_ist 6 9), (9, o_ild 6 11), (11, o_ald 0 12), (12, o_getI [6] 0 15), (15, o_ic pGe 80 18), (18, o_ild 6 20), (20, o_ald 3 21), (21, o_alen 22), (22, o_ic pGe 80 25), (25, o_ald 0 26), (26, o_getR [6] 3 29), (29, o_ild 6 31), (31, o_xald 13 32), (32, o_ist 7 34), (34, o_ild 7 36), (36, o_push (vI 2) 37), (37, o_ic pNe 51 40), (40, o_ild 2 41), (41, o_ild 5 43), (43, o_ib fShr 44), (44, o_push (vI 1) 45), (45, o_ib fAnd 46), (46, o_ist 7 48), (48, o_inc 5 1 51), (51, o_push (vI 0) 52), (52, o_ild 1 53), (53, o_push (vI 1) 54), (54, o_ib fSub 55), (55, o_ild 4 57), (57, o_ild 7 59), (59, o_ib fAdd 60), (60, o_math2 fMin 0 0 63), (63, o_math2 fMax 0 0 66), (66, o_ist 4 68), (68, o_ald 3 69), (69, o_ild 6 71), (71, o_ild 4 73), (73, o_iast 74), (74, o_inc 6 1 77), (77, o_go 9), (80, o_ret0 0 0)]
def T_X6_walk : List oA → oM → oQ → Prop := oT tb_X6_walk 8
set_option maxRecDepth 20000 in
theorem sn_X6_walk_0 {p : Program} {l : Launch} {e : Env} {s : State} {m : MethodId} {args : Array Value} {below : List Frame} {meth : Method} {c : Code} {D : va_G} {ids : Nat → ClassId} {b : Nat} {Q : oQ} (C : oCx p s m args c cX6_walk 8 (yX6_walk).cls D ids b) (hr : meth.sig.returnType = none) (hlk : meth.locks = false) (hnm : meth.name = (yX6_walk).name) : ∀ q ∈ tl_X6_walk_0, oSn (oW p l e (oRm 1 21 0 0) s m args below meth c 8 D ids b (oMQ D ids b below Q args s 0 0)) Q q.1 q.2 := List.forall_mem_cons.mpr ⟨so_iconst C 0 rfl dX6_walk_0, List.forall_mem_cons.mpr ⟨so_istore C 4 (by decide) dX6_walk_1, List.forall_mem_cons.mpr ⟨so_iconst C 0 rfl dX6_walk_3, List.forall_mem_cons.mpr ⟨so_istore C 5 (by decide) dX6_walk_4, List.forall_mem_cons.mpr ⟨so_iconst C 0 rfl dX6_walk_6, List.forall_mem_cons.mpr ⟨so_istore C 6 (by decide) dX6_walk_7, List.forall_mem_cons.mpr ⟨so_iload C 6 dX6_walk_9, List.forall_mem_cons.mpr ⟨so_aload_n C 0 rfl dX6_walk_11, List.forall_mem_cons.mpr ⟨so_getI C [6] 0 (fd_RX6_27_6 C) (by decide) dX6_walk_12, List.forall_mem_cons.mpr ⟨so_ic_ge C (by decide) dX6_walk_15, List.forall_mem_cons.mpr ⟨so_iload C 6 dX6_walk_18, List.forall_mem_cons.mpr ⟨so_aload_n C 3 rfl dX6_walk_20, List.forall_mem_cons.mpr ⟨so_alen C dX6_walk_21, List.forall_mem_cons.mpr ⟨so_ic_ge C (by decide) dX6_walk_22, List.forall_mem_cons.mpr ⟨so_aload_n C 0 rfl dX6_walk_25, List.forall_mem_cons.mpr ⟨so_getR C [6] 3 (fd_RX6_15_6 C) (ft_6_3) dX6_walk_26, List.forall_mem_cons.mpr ⟨so_iload C 6 dX6_walk_29, List.forall_mem_cons.mpr ⟨so_iald C dX6_walk_31, List.forall_mem_cons.mpr ⟨so_istore C 7 (by decide) dX6_walk_32, List.forall_mem_cons.mpr ⟨so_iload C 7 dX6_walk_34, List.forall_mem_cons.mpr ⟨so_iconst C 2 rfl dX6_walk_36, List.forall_mem_cons.mpr ⟨so_ic_ne C (by decide) dX6_walk_37, List.forall_mem_cons.mpr ⟨so_iload_n C 2 rfl dX6_walk_40, List.forall_mem_cons.mpr ⟨so_iload C 5 dX6_walk_41, fun _ h => absurd h List.not_mem_nil⟩⟩⟩⟩⟩⟩⟩⟩⟩⟩⟩⟩⟩⟩⟩⟩⟩⟩⟩⟩⟩⟩⟩⟩
set_option maxRecDepth 20000 in
theorem sn_X6_walk_1 {p : Program} {l : Launch} {e : Env} {s : State} {m : MethodId} {args : Array Value} {below : List Frame} {meth : Method} {c : Code} {D : va_G} {ids : Nat → ClassId} {b : Nat} {Q : oQ} (C : oCx p s m args c cX6_walk 8 (yX6_walk).cls D ids b) (hr : meth.sig.returnType = none) (hlk : meth.locks = false) (hnm : meth.name = (yX6_walk).name) : ∀ q ∈ tl_X6_walk_1, oSn (oW p l e (oRm 1 21 0 0) s m args below meth c 8 D ids b (oMQ D ids b below Q args s 0 0)) Q q.1 q.2 := List.forall_mem_cons.mpr ⟨so_ishr C dX6_walk_43, List.forall_mem_cons.mpr ⟨so_iconst C 1 rfl dX6_walk_44, List.forall_mem_cons.mpr ⟨so_iand C dX6_walk_45, List.forall_mem_cons.mpr ⟨so_istore C 7 (by decide) dX6_walk_46, List.forall_mem_cons.mpr ⟨so_iinc C 5 1 (by decide) dX6_walk_48, List.forall_mem_cons.mpr ⟨so_iconst C 0 rfl dX6_walk_51, List.forall_mem_cons.mpr ⟨so_iload_n C 1 rfl dX6_walk_52, List.forall_mem_cons.mpr ⟨so_iconst C 1 rfl dX6_walk_53, List.forall_mem_cons.mpr ⟨so_isub C dX6_walk_54, List.forall_mem_cons.mpr ⟨so_iload C 4 dX6_walk_55, List.forall_mem_cons.mpr ⟨so_iload C 7 dX6_walk_57, List.forall_mem_cons.mpr ⟨so_iadd C dX6_walk_59, List.forall_mem_cons.mpr ⟨so_min C 0 0 ⟨Nat.le_refl _, Nat.le_refl _⟩ kw_416 kw_417 kw_12 kw_418 (by decide) (by decide) dX6_walk_60, List.forall_mem_cons.mpr ⟨so_max C 0 0 ⟨Nat.le_refl _, Nat.le_refl _⟩ kw_547 kw_548 kw_12 kw_549 (by decide) (by decide) dX6_walk_63, List.forall_mem_cons.mpr ⟨so_istore C 4 (by decide) dX6_walk_66, List.forall_mem_cons.mpr ⟨so_aload_n C 3 rfl dX6_walk_68, List.forall_mem_cons.mpr ⟨so_iload C 6 dX6_walk_69, List.forall_mem_cons.mpr ⟨so_iload C 4 dX6_walk_71, List.forall_mem_cons.mpr ⟨so_iast C dX6_walk_73, List.forall_mem_cons.mpr ⟨so_iinc C 6 1 (by decide) dX6_walk_74, List.forall_mem_cons.mpr ⟨so_goto C (by decide) dX6_walk_77, List.forall_mem_cons.mpr ⟨so_ret0 C 0 0 hr hlk dX6_walk_80, fun _ h => absurd h List.not_mem_nil⟩⟩⟩⟩⟩⟩⟩⟩⟩⟩⟩⟩⟩⟩⟩⟩⟩⟩⟩⟩⟩⟩
set_option maxRecDepth 20000 in
theorem c_X6_walk (l : Launch) (D : va_G) (ids : Nat → ClassId) : oMT l D ids yX6_walk cX6_walk 8 none 1 21 0 0 T_X6_walk := oMet l D ids tb_X6_walk (by decide) (fun p e s m args below meth c b Q C hr hlk hnm => oTab_all (tl_X6_walk_0 ++ (tl_X6_walk_1)) (List.forall_mem_append.mpr ⟨sn_X6_walk_0 C hr hlk hnm, sn_X6_walk_1 C hr hlk hnm⟩))
theorem dX2_countBaking_0 : decode cX2_countBaking 0 = .ok (.aload_n 0, 1) := by decide +kernel
theorem dX2_countBaking_1 : decode cX2_countBaking 1 = .ok (.getfield 22, 3) := by decide +kernel
theorem dX2_countBaking_4 : decode cX2_countBaking 4 = .ok (.iconst 0, 1) := by decide +kernel
theorem dX2_countBaking_5 : decode cX2_countBaking 5 = .ok (.invokestatic 113, 3) := by decide +kernel
theorem dX2_countBaking_8 : decode cX2_countBaking 8 = .ok (.iconst 0, 1) := by decide +kernel
theorem dX2_countBaking_9 : decode cX2_countBaking 9 = .ok (.istore_n 3, 1) := by decide +kernel
theorem dX2_countBaking_10 : decode cX2_countBaking 10 = .ok (.iload_n 3, 1) := by decide +kernel
theorem dX2_countBaking_11 : decode cX2_countBaking 11 = .ok (.aload_n 0, 1) := by decide +kernel
theorem dX2_countBaking_12 : decode cX2_countBaking 12 = .ok (.getfield 14, 3) := by decide +kernel
theorem dX2_countBaking_15 : decode cX2_countBaking 15 = .ok (.getfield 118, 3) := by decide +kernel
theorem dX2_countBaking_18 : decode cX2_countBaking 18 = .ok (.if_icmp .ge 93, 3) := by decide +kernel
theorem dX2_countBaking_21 : decode cX2_countBaking 21 = .ok (.aload_n 0, 1) := by decide +kernel
theorem dX2_countBaking_22 : decode cX2_countBaking 22 = .ok (.getfield 14, 3) := by decide +kernel
theorem dX2_countBaking_25 : decode cX2_countBaking 25 = .ok (.getfield 121, 3) := by decide +kernel
theorem dX2_countBaking_28 : decode cX2_countBaking 28 = .ok (.iload_n 3, 1) := by decide +kernel
theorem dX2_countBaking_29 : decode cX2_countBaking 29 = .ok (.iaload, 1) := by decide +kernel
theorem dX2_countBaking_30 : decode cX2_countBaking 30 = .ok (.bipush 19, 2) := by decide +kernel
theorem dX2_countBaking_32 : decode cX2_countBaking 32 = .ok (.imul, 1) := by decide +kernel
theorem dX2_countBaking_33 : decode cX2_countBaking 33 = .ok (.bipush 9, 2) := by decide +kernel
theorem dX2_countBaking_35 : decode cX2_countBaking 35 = .ok (.iadd, 1) := by decide +kernel
theorem dX2_countBaking_36 : decode cX2_countBaking 36 = .ok (.istore 4, 2) := by decide +kernel
theorem dX2_countBaking_38 : decode cX2_countBaking 38 = .ok (.aload_n 0, 1) := by decide +kernel
theorem dX2_countBaking_39 : decode cX2_countBaking 39 = .ok (.getfield 14, 3) := by decide +kernel
theorem dX2_countBaking_42 : decode cX2_countBaking 42 = .ok (.getfield 124, 3) := by decide +kernel
theorem dX2_countBaking_45 : decode cX2_countBaking 45 = .ok (.iload_n 3, 1) := by decide +kernel
theorem dX2_countBaking_46 : decode cX2_countBaking 46 = .ok (.iaload, 1) := by decide +kernel
theorem dX2_countBaking_47 : decode cX2_countBaking 47 = .ok (.iload_n 2, 1) := by decide +kernel
theorem dX2_countBaking_48 : decode cX2_countBaking 48 = .ok (.isub, 1) := by decide +kernel
theorem dX2_countBaking_49 : decode cX2_countBaking 49 = .ok (.iload_n 1, 1) := by decide +kernel
theorem dX2_countBaking_50 : decode cX2_countBaking 50 = .ok (.iadd, 1) := by decide +kernel
theorem dX2_countBaking_51 : decode cX2_countBaking 51 = .ok (.bipush (-9), 2) := by decide +kernel
theorem dX2_countBaking_53 : decode cX2_countBaking 53 = .ok (.invokestatic 106, 3) := by decide +kernel
theorem dX2_countBaking_56 : decode cX2_countBaking 56 = .ok (.istore 5, 2) := by decide +kernel
theorem dX2_countBaking_58 : decode cX2_countBaking 58 = .ok (.aload_n 0, 1) := by decide +kernel
theorem dX2_countBaking_59 : decode cX2_countBaking 59 = .ok (.getfield 14, 3) := by decide +kernel
theorem dX2_countBaking_62 : decode cX2_countBaking 62 = .ok (.getfield 127, 3) := by decide +kernel
theorem dX2_countBaking_65 : decode cX2_countBaking 65 = .ok (.iload_n 3, 1) := by decide +kernel
theorem dX2_countBaking_66 : decode cX2_countBaking 66 = .ok (.iaload, 1) := by decide +kernel
theorem dX2_countBaking_67 : decode cX2_countBaking 67 = .ok (.bipush 9, 2) := by decide +kernel
theorem dX2_countBaking_69 : decode cX2_countBaking 69 = .ok (.invokestatic 100, 3) := by decide +kernel
theorem dX2_countBaking_72 : decode cX2_countBaking 72 = .ok (.istore 6, 2) := by decide +kernel
theorem dX2_countBaking_74 : decode cX2_countBaking 74 = .ok (.iload 5, 2) := by decide +kernel
theorem dX2_countBaking_76 : decode cX2_countBaking 76 = .ok (.istore 7, 2) := by decide +kernel
theorem dX2_countBaking_78 : decode cX2_countBaking 78 = .ok (.iload 7, 2) := by decide +kernel
theorem dX2_countBaking_80 : decode cX2_countBaking 80 = .ok (.iload 6, 2) := by decide +kernel
theorem dX2_countBaking_82 : decode cX2_countBaking 82 = .ok (.if_icmp .gt 23, 3) := by decide +kernel
theorem dX2_countBaking_85 : decode cX2_countBaking 85 = .ok (.aload_n 0, 1) := by decide +kernel
theorem dX2_countBaking_86 : decode cX2_countBaking 86 = .ok (.getfield 22, 3) := by decide +kernel
theorem dX2_countBaking_89 : decode cX2_countBaking 89 = .ok (.iload 4, 2) := by decide +kernel
theorem dX2_countBaking_91 : decode cX2_countBaking 91 = .ok (.iload 7, 2) := by decide +kernel
theorem dX2_countBaking_93 : decode cX2_countBaking 93 = .ok (.iadd, 1) := by decide +kernel
theorem dX2_countBaking_94 : decode cX2_countBaking 94 = .ok (.dup2, 1) := by decide +kernel
theorem dX2_countBaking_95 : decode cX2_countBaking 95 = .ok (.iaload, 1) := by decide +kernel
theorem dX2_countBaking_96 : decode cX2_countBaking 96 = .ok (.iconst 1, 1) := by decide +kernel
theorem dX2_countBaking_97 : decode cX2_countBaking 97 = .ok (.iadd, 1) := by decide +kernel
theorem dX2_countBaking_98 : decode cX2_countBaking 98 = .ok (.iastore, 1) := by decide +kernel
theorem dX2_countBaking_99 : decode cX2_countBaking 99 = .ok (.iinc 7 1, 3) := by decide +kernel
theorem dX2_countBaking_102 : decode cX2_countBaking 102 = .ok (.goto (-24), 3) := by decide +kernel
theorem dX2_countBaking_105 : decode cX2_countBaking 105 = .ok (.iinc 3 1, 3) := by decide +kernel
theorem dX2_countBaking_108 : decode cX2_countBaking 108 = .ok (.goto (-98), 3) := by decide +kernel
theorem dX2_countBaking_111 : decode cX2_countBaking 111 = .ok (.return_, 1) := by decide +kernel
abbrev tl_X2_countBaking_0 : List (Nat × oOp) := [(0, o_ald 0 1), (1, o_getR [2] 2 4), (4, o_push (vI 0) 5), (5, o_call T_J7_fill_53178 2 0 0 0 0 8), (8, o_push (vI 0) 9), (9, o_ist 3 10), (10, o_ild 3 11), (11, o_ald 0 12), (12, o_getR [2] 0 15), (15, o_getI [9] 3 18), (18, o_ic pGe 111 21), (21, o_ald 0 22), (22, o_getR [2] 0 25), (25, o_getR [9] 0 28), (28, o_ild 3 29), (29, o_xald 13 30), (30, o_push (vI 19) 32), (32, o_ib fMul 33), (33, o_push (vI 9) 35), (35, o_ib fAdd 36), (36, o_ist 4 38), (38, o_ald 0 39), (39, o_getR [2] 0 42), (42, o_getR [9] 1 45)]
abbrev tl_X2_countBaking_1 : List (Nat × oOp) := [(45, o_ild 3 46), (46, o_xald 13 47), (47, o_ild 2 48), (48, o_ib fSub 49), (49, o_ild 1 50), (50, o_ib fAdd 51), (51, o_push (vI (-9)) 53), (53, o_math2 fMax 0 0 56), (56, o_ist 5 58), (58, o_ald 0 59), (59, o_getR [2] 0 62), (62, o_getR [9] 2 65), (65, o_ild 3 66), (66, o_xald 13 67), (67, o_push (vI 9) 69), (69, o_math2 fMin 0 0 72), (72, o_ist 6 74), (74, o_ild 5 76), (76, o_ist 7 78), (78, o_ild 7 80), (80, o_ild 6 82), (82, o_ic pGt 105 85), (85, o_ald 0 86), (86, o_getR [2] 2 89)]
abbrev tl_X2_countBaking_2 : List (Nat × oOp) := [(89, o_ild 4 91), (91, o_ild 7 93), (93, o_ib fAdd 94), (94, o_dup2 95), (95, o_xald 13 96), (96, o_push (vI 1) 97), (97, o_ib fAdd 98), (98, o_iast 99), (99, o_inc 7 1 102), (102, o_go 78), (105, o_inc 3 1 108), (108, o_go 10), (111, o_ret0 0 0)]
set_option maxRecDepth 20000 in
def tb_X2_countBaking : Nat → oOp := oTab [(0, o_ald 0 1), (1, o_getR [2] 2 4), (4, o_push (vI 0) 5), (5, o_call T_J7_fill_53178 2 0 0 0 0 8), (8, o_push (vI 0) 9), (9, o_ist 3 10), (10, o_ild 3 11), (11, o_ald 0 12), (12, o_getR [2] 0 15), (15, o_getI [9] 3 18), (18, o_ic pGe 111 21), (21, o_ald 0 22), (22, o_getR [2] 0 25), (25, o_getR [9] 0 28), (28, o_ild 3 29), (29, o_xald 13 30), (30, o_push (vI 19) 32), (32, o_ib fMul 33), (33, o_push (vI 9) 35), (35, o_ib fAdd 36), (36, o_ist 4 38), (38, o_ald 0 39), (39, o_getR [2] 0 42), (42, o_getR [9] 1 45), (45, o_ild 3 46), (46, o_xald 13 47), (47, o_ild 2 48), (48, o_ib fSub 49), (49, o_ild 1 50), (50, o_ib fAdd 51), (51, o_push (vI (-9)) 53), (53, o_math2 fMax 0 0 56), (56, o_ist 5 58), (58, o_ald 0 59), (59, o_getR [2] 0 62), (62, o_getR [9] 2 65), (65, o_ild 3 66), (66, o_xald 13 67), (67, o_push (vI 9) 69), (69, o_math2 fMin 0 0 72), (72, o_ist 6 74), (74, o_ild 5 76), (76, o_ist 7 78), (78, o_ild 7 80), (80, o_ild 6 82), (82, o_ic pGt 105 85), (85, o_ald 0 86), (86, o_getR [2] 2 89), (89, o_ild 4 91), (91, o_ild 7 93), (93, o_ib fAdd 94), (94, o_dup2 95), (95, o_xald 13 96), (96, o_push (vI 1) 97), (97, o_ib fAdd 98), (98, o_iast 99), (99, o_inc 7 1 102), (102, o_go 78), (105, o_inc 3 1 108), (108, o_go 10), (111, o_ret0 0 0)]
def T_X2_countBaking : List oA → oM → oQ → Prop := oT tb_X2_countBaking 8
set_option maxRecDepth 20000 in
theorem sn_X2_countBaking_0 {p : Program} {l : Launch} {e : Env} {s : State} {m : MethodId} {args : Array Value} {below : List Frame} {meth : Method} {c : Code} {D : va_G} {ids : Nat → ClassId} {b : Nat} {Q : oQ} (C : oCx p s m args c cX2_countBaking 8 (yX2_countBaking).cls D ids b) (hr : meth.sig.returnType = none) (hlk : meth.locks = false) (hnm : meth.name = (yX2_countBaking).name) : ∀ q ∈ tl_X2_countBaking_0, oSn (oW p l e (oRm 1 23 0 0) s m args below meth c 8 D ids b (oMQ D ids b below Q args s 0 0)) Q q.1 q.2 := List.forall_mem_cons.mpr ⟨so_aload_n C 0 rfl dX2_countBaking_0, List.forall_mem_cons.mpr ⟨so_getR C [2] 2 (fd_RX2_22_2 C) (ft_2_2) dX2_countBaking_1, List.forall_mem_cons.mpr ⟨so_iconst C 0 rfl dX2_countBaking_4, List.forall_mem_cons.mpr ⟨so_callS C (y := yJ7_fill_53178) 2 0 0 ⟨Nat.le_refl _, Nat.le_refl _⟩ (c_J7_fill_53178 l D ids) kw_287 kw_600 kw_286 kw_10 hy_J7_fill_53178 ⟨Nat.le_of_ble_eq_true rfl, Nat.le_of_ble_eq_true rfl⟩ dX2_countBaking_5, List.forall_mem_cons.mpr ⟨so_iconst C 0 rfl dX2_countBaking_8, List.forall_mem_cons.mpr ⟨so_istore_n C 3 rfl (by decide) dX2_countBaking_9, List.forall_mem_cons.mpr ⟨so_iload_n C 3 rfl dX2_countBaking_10, List.forall_mem_cons.mpr ⟨so_aload_n C 0 rfl dX2_countBaking_11, List.forall_mem_cons.mpr ⟨so_getR C [2] 0 (fd_RX2_14_2 C) (ft_2_0) dX2_countBaking_12, List.forall_mem_cons.mpr ⟨so_getI C [9] 3 (fd_RX2_118_9 C) (by decide) dX2_countBaking_15, List.forall_mem_cons.mpr ⟨so_ic_ge C (by decide) dX2_countBaking_18, List.forall_mem_cons.mpr ⟨so_aload_n C 0 rfl dX2_countBaking_21, List.forall_mem_cons.mpr ⟨so_getR C [2] 0 (fd_RX2_14_2 C) (ft_2_0) dX2_countBaking_22, List.forall_mem_cons.mpr ⟨so_getR C [9] 0 (fd_RX2_121_9 C) (ft_9_0) dX2_countBaking_25, List.forall_mem_cons.mpr ⟨so_iload_n C 3 rfl dX2_countBaking_28, List.forall_mem_cons.mpr ⟨so_iald C dX2_countBaking_29, List.forall_mem_cons.mpr ⟨so_bipush C 19 rfl dX2_countBaking_30, List.forall_mem_cons.mpr ⟨so_imul C dX2_countBaking_32, List.forall_mem_cons.mpr ⟨so_bipush C 9 rfl dX2_countBaking_33, List.forall_mem_cons.mpr ⟨so_iadd C dX2_countBaking_35, List.forall_mem_cons.mpr ⟨so_istore C 4 (by decide) dX2_countBaking_36, List.forall_mem_cons.mpr ⟨so_aload_n C 0 rfl dX2_countBaking_38, List.forall_mem_cons.mpr ⟨so_getR C [2] 0 (fd_RX2_14_2 C) (ft_2_0) dX2_countBaking_39, List.forall_mem_cons.mpr ⟨so_getR C [9] 1 (fd_RX2_124_9 C) (ft_9_1) dX2_countBaking_42, fun _ h => absurd h List.not_mem_nil⟩⟩⟩⟩⟩⟩⟩⟩⟩⟩⟩⟩⟩⟩⟩⟩⟩⟩⟩⟩⟩⟩⟩⟩
set_option maxRecDepth 20000 in
theorem sn_X2_countBaking_1 {p : Program} {l : Launch} {e : Env} {s : State} {m : MethodId} {args : Array Value} {below : List Frame} {meth : Method} {c : Code} {D : va_G} {ids : Nat → ClassId} {b : Nat} {Q : oQ} (C : oCx p s m args c cX2_countBaking 8 (yX2_countBaking).cls D ids b) (hr : meth.sig.returnType = none) (hlk : meth.locks = false) (hnm : meth.name = (yX2_countBaking).name) : ∀ q ∈ tl_X2_countBaking_1, oSn (oW p l e (oRm 1 23 0 0) s m args below meth c 8 D ids b (oMQ D ids b below Q args s 0 0)) Q q.1 q.2 := List.forall_mem_cons.mpr ⟨so_iload_n C 3 rfl dX2_countBaking_45, List.forall_mem_cons.mpr ⟨so_iald C dX2_countBaking_46, List.forall_mem_cons.mpr ⟨so_iload_n C 2 rfl dX2_countBaking_47, List.forall_mem_cons.mpr ⟨so_isub C dX2_countBaking_48, List.forall_mem_cons.mpr ⟨so_iload_n C 1 rfl dX2_countBaking_49, List.forall_mem_cons.mpr ⟨so_iadd C dX2_countBaking_50, List.forall_mem_cons.mpr ⟨so_bipush C (-9) rfl dX2_countBaking_51, List.forall_mem_cons.mpr ⟨so_max C 0 0 ⟨Nat.le_refl _, Nat.le_refl _⟩ kw_601 kw_548 kw_12 kw_549 (by decide) (by decide) dX2_countBaking_53, List.forall_mem_cons.mpr ⟨so_istore C 5 (by decide) dX2_countBaking_56, List.forall_mem_cons.mpr ⟨so_aload_n C 0 rfl dX2_countBaking_58, List.forall_mem_cons.mpr ⟨so_getR C [2] 0 (fd_RX2_14_2 C) (ft_2_0) dX2_countBaking_59, List.forall_mem_cons.mpr ⟨so_getR C [9] 2 (fd_RX2_127_9 C) (ft_9_2) dX2_countBaking_62, List.forall_mem_cons.mpr ⟨so_iload_n C 3 rfl dX2_countBaking_65, List.forall_mem_cons.mpr ⟨so_iald C dX2_countBaking_66, List.forall_mem_cons.mpr ⟨so_bipush C 9 rfl dX2_countBaking_67, List.forall_mem_cons.mpr ⟨so_min C 0 0 ⟨Nat.le_refl _, Nat.le_refl _⟩ kw_602 kw_417 kw_12 kw_418 (by decide) (by decide) dX2_countBaking_69, List.forall_mem_cons.mpr ⟨so_istore C 6 (by decide) dX2_countBaking_72, List.forall_mem_cons.mpr ⟨so_iload C 5 dX2_countBaking_74, List.forall_mem_cons.mpr ⟨so_istore C 7 (by decide) dX2_countBaking_76, List.forall_mem_cons.mpr ⟨so_iload C 7 dX2_countBaking_78, List.forall_mem_cons.mpr ⟨so_iload C 6 dX2_countBaking_80, List.forall_mem_cons.mpr ⟨so_ic_gt C (by decide) dX2_countBaking_82, List.forall_mem_cons.mpr ⟨so_aload_n C 0 rfl dX2_countBaking_85, List.forall_mem_cons.mpr ⟨so_getR C [2] 2 (fd_RX2_22_2 C) (ft_2_2) dX2_countBaking_86, fun _ h => absurd h List.not_mem_nil⟩⟩⟩⟩⟩⟩⟩⟩⟩⟩⟩⟩⟩⟩⟩⟩⟩⟩⟩⟩⟩⟩⟩⟩
set_option maxRecDepth 20000 in
theorem sn_X2_countBaking_2 {p : Program} {l : Launch} {e : Env} {s : State} {m : MethodId} {args : Array Value} {below : List Frame} {meth : Method} {c : Code} {D : va_G} {ids : Nat → ClassId} {b : Nat} {Q : oQ} (C : oCx p s m args c cX2_countBaking 8 (yX2_countBaking).cls D ids b) (hr : meth.sig.returnType = none) (hlk : meth.locks = false) (hnm : meth.name = (yX2_countBaking).name) : ∀ q ∈ tl_X2_countBaking_2, oSn (oW p l e (oRm 1 23 0 0) s m args below meth c 8 D ids b (oMQ D ids b below Q args s 0 0)) Q q.1 q.2 := List.forall_mem_cons.mpr ⟨so_iload C 4 dX2_countBaking_89, List.forall_mem_cons.mpr ⟨so_iload C 7 dX2_countBaking_91, List.forall_mem_cons.mpr ⟨so_iadd C dX2_countBaking_93, List.forall_mem_cons.mpr ⟨so_dup2 C dX2_countBaking_94, List.forall_mem_cons.mpr ⟨so_iald C dX2_countBaking_95, List.forall_mem_cons.mpr ⟨so_iconst C 1 rfl dX2_countBaking_96, List.forall_mem_cons.mpr ⟨so_iadd C dX2_countBaking_97, List.forall_mem_cons.mpr ⟨so_iast C dX2_countBaking_98, List.forall_mem_cons.mpr ⟨so_iinc C 7 1 (by decide) dX2_countBaking_99, List.forall_mem_cons.mpr ⟨so_goto C (by decide) dX2_countBaking_102, List.forall_mem_cons.mpr ⟨so_iinc C 3 1 (by decide) dX2_countBaking_105, List.forall_mem_cons.mpr ⟨so_goto C (by decide) dX2_countBaking_108, List.forall_mem_cons.mpr ⟨so_ret0 C 0 0 hr hlk dX2_countBaking_111, fun _ h => absurd h List.not_mem_nil⟩⟩⟩⟩⟩⟩⟩⟩⟩⟩⟩⟩⟩
set_option maxRecDepth 20000 in
theorem c_X2_countBaking (l : Launch) (D : va_G) (ids : Nat → ClassId) : oMT l D ids yX2_countBaking cX2_countBaking 8 none 1 23 0 0 T_X2_countBaking := oMet l D ids tb_X2_countBaking (by decide) (fun p e s m args below meth c b Q C hr hlk hnm => oTab_all (tl_X2_countBaking_0 ++ (tl_X2_countBaking_1 ++ (tl_X2_countBaking_2))) (List.forall_mem_append.mpr ⟨sn_X2_countBaking_0 C hr hlk hnm, List.forall_mem_append.mpr ⟨sn_X2_countBaking_1 C hr hlk hnm, sn_X2_countBaking_2 C hr hlk hnm⟩⟩))
theorem dX7_edge_0 : decode cX7_edge 0 = .ok (.aload_n 0, 1) := by decide +kernel
theorem dX7_edge_1 : decode cX7_edge 1 = .ok (.getfield 56, 3) := by decide +kernel
theorem dX7_edge_4 : decode cX7_edge 4 = .ok (.iconst 1, 1) := by decide +kernel
theorem dX7_edge_5 : decode cX7_edge 5 = .ok (.iadd, 1) := by decide +kernel
theorem dX7_edge_6 : decode cX7_edge 6 = .ok (.sipush 2548, 3) := by decide +kernel
theorem dX7_edge_9 : decode cX7_edge 9 = .ok (.if_icmp .lt 4, 3) := by decide +kernel
theorem dX7_edge_12 : decode cX7_edge 12 = .ok (.return_, 1) := by decide +kernel
theorem dX7_edge_13 : decode cX7_edge 13 = .ok (.aload_n 0, 1) := by decide +kernel
theorem dX7_edge_14 : decode cX7_edge 14 = .ok (.getfield 52, 3) := by decide +kernel
theorem dX7_edge_17 : decode cX7_edge 17 = .ok (.ifCond .eq 8, 3) := by decide +kernel
theorem dX7_edge_20 : decode cX7_edge 20 = .ok (.iload 4, 2) := by decide +kernel
theorem dX7_edge_22 : decode cX7_edge 22 = .ok (.goto 4, 3) := by decide +kernel
theorem dX7_edge_25 : decode cX7_edge 25 = .ok (.iconst 0, 1) := by decide +kernel
theorem dX7_edge_26 : decode cX7_edge 26 = .ok (.istore 5, 2) := by decide +kernel
theorem dX7_edge_28 : decode cX7_edge 28 = .ok (.aload_n 0, 1) := by decide +kernel
theorem dX7_edge_29 : decode cX7_edge 29 = .ok (.getfield 13, 3) := by decide +kernel
theorem dX7_edge_32 : decode cX7_edge 32 = .ok (.aload_n 0, 1) := by decide +kernel
theorem dX7_edge_33 : decode cX7_edge 33 = .ok (.getfield 56, 3) := by decide +kernel
theorem dX7_edge_36 : decode cX7_edge 36 = .ok (.iload_n 2, 1) := by decide +kernel
theorem dX7_edge_37 : decode cX7_edge 37 = .ok (.iastore, 1) := by decide +kernel
theorem dX7_edge_38 : decode cX7_edge 38 = .ok (.aload_n 0, 1) := by decide +kernel
theorem dX7_edge_39 : decode cX7_edge 39 = .ok (.getfield 17, 3) := by decide +kernel
theorem dX7_edge_42 : decode cX7_edge 42 = .ok (.aload_n 0, 1) := by decide +kernel
theorem dX7_edge_43 : decode cX7_edge 43 = .ok (.getfield 56, 3) := by decide +kernel
theorem dX7_edge_46 : decode cX7_edge 46 = .ok (.iload_n 3, 1) := by decide +kernel
theorem dX7_edge_47 : decode cX7_edge 47 = .ok (.iastore, 1) := by decide +kernel
theorem dX7_edge_48 : decode cX7_edge 48 = .ok (.aload_n 0, 1) := by decide +kernel
theorem dX7_edge_49 : decode cX7_edge 49 = .ok (.getfield 20, 3) := by decide +kernel
theorem dX7_edge_52 : decode cX7_edge 52 = .ok (.aload_n 0, 1) := by decide +kernel
theorem dX7_edge_53 : decode cX7_edge 53 = .ok (.getfield 56, 3) := by decide +kernel
theorem dX7_edge_56 : decode cX7_edge 56 = .ok (.iload 5, 2) := by decide +kernel
theorem dX7_edge_58 : decode cX7_edge 58 = .ok (.iastore, 1) := by decide +kernel
theorem dX7_edge_59 : decode cX7_edge 59 = .ok (.aload_n 0, 1) := by decide +kernel
theorem dX7_edge_60 : decode cX7_edge 60 = .ok (.getfield 23, 3) := by decide +kernel
theorem dX7_edge_63 : decode cX7_edge 63 = .ok (.aload_n 0, 1) := by decide +kernel
theorem dX7_edge_64 : decode cX7_edge 64 = .ok (.getfield 56, 3) := by decide +kernel
theorem dX7_edge_67 : decode cX7_edge 67 = .ok (.aload_n 0, 1) := by decide +kernel
theorem dX7_edge_68 : decode cX7_edge 68 = .ok (.getfield 26, 3) := by decide +kernel
theorem dX7_edge_71 : decode cX7_edge 71 = .ok (.iload_n 1, 1) := by decide +kernel
theorem dX7_edge_72 : decode cX7_edge 72 = .ok (.iaload, 1) := by decide +kernel
theorem dX7_edge_73 : decode cX7_edge 73 = .ok (.iastore, 1) := by decide +kernel
theorem dX7_edge_74 : decode cX7_edge 74 = .ok (.aload_n 0, 1) := by decide +kernel
theorem dX7_edge_75 : decode cX7_edge 75 = .ok (.getfield 26, 3) := by decide +kernel
theorem dX7_edge_78 : decode cX7_edge 78 = .ok (.iload_n 1, 1) := by decide +kernel
theorem dX7_edge_79 : decode cX7_edge 79 = .ok (.aload_n 0, 1) := by decide +kernel
theorem dX7_edge_80 : decode cX7_edge 80 = .ok (.getfield 56, 3) := by decide +kernel
theorem dX7_edge_83 : decode cX7_edge 83 = .ok (.iastore, 1) := by decide +kernel
theorem dX7_edge_84 : decode cX7_edge 84 = .ok (.aload_n 0, 1) := by decide +kernel
theorem dX7_edge_85 : decode cX7_edge 85 = .ok (.dup, 1) := by decide +kernel
theorem dX7_edge_86 : decode cX7_edge 86 = .ok (.getfield 56, 3) := by decide +kernel
theorem dX7_edge_89 : decode cX7_edge 89 = .ok (.iconst 1, 1) := by decide +kernel
theorem dX7_edge_90 : decode cX7_edge 90 = .ok (.iadd, 1) := by decide +kernel
theorem dX7_edge_91 : decode cX7_edge 91 = .ok (.putfield 56, 3) := by decide +kernel
theorem dX7_edge_94 : decode cX7_edge 94 = .ok (.aload_n 0, 1) := by decide +kernel
theorem dX7_edge_95 : decode cX7_edge 95 = .ok (.getfield 13, 3) := by decide +kernel
theorem dX7_edge_98 : decode cX7_edge 98 = .ok (.aload_n 0, 1) := by decide +kernel
theorem dX7_edge_99 : decode cX7_edge 99 = .ok (.getfield 56, 3) := by decide +kernel
theorem dX7_edge_102 : decode cX7_edge 102 = .ok (.iload_n 1, 1) := by decide +kernel
theorem dX7_edge_103 : decode cX7_edge 103 = .ok (.iastore, 1) := by decide +kernel
theorem dX7_edge_104 : decode cX7_edge 104 = .ok (.aload_n 0, 1) := by decide +kernel
theorem dX7_edge_105 : decode cX7_edge 105 = .ok (.getfield 17, 3) := by decide +kernel
theorem dX7_edge_108 : decode cX7_edge 108 = .ok (.aload_n 0, 1) := by decide +kernel
theorem dX7_edge_109 : decode cX7_edge 109 = .ok (.getfield 56, 3) := by decide +kernel
theorem dX7_edge_112 : decode cX7_edge 112 = .ok (.iconst 0, 1) := by decide +kernel
theorem dX7_edge_113 : decode cX7_edge 113 = .ok (.iastore, 1) := by decide +kernel
theorem dX7_edge_114 : decode cX7_edge 114 = .ok (.aload_n 0, 1) := by decide +kernel
theorem dX7_edge_115 : decode cX7_edge 115 = .ok (.getfield 20, 3) := by decide +kernel
theorem dX7_edge_118 : decode cX7_edge 118 = .ok (.aload_n 0, 1) := by decide +kernel
theorem dX7_edge_119 : decode cX7_edge 119 = .ok (.getfield 56, 3) := by decide +kernel
theorem dX7_edge_122 : decode cX7_edge 122 = .ok (.iload 5, 2) := by decide +kernel
theorem dX7_edge_124 : decode cX7_edge 124 = .ok (.ineg, 1) := by decide +kernel
theorem dX7_edge_125 : decode cX7_edge 125 = .ok (.iastore, 1) := by decide +kernel
theorem dX7_edge_126 : decode cX7_edge 126 = .ok (.aload_n 0, 1) := by decide +kernel
theorem dX7_edge_127 : decode cX7_edge 127 = .ok (.getfield 23, 3) := by decide +kernel
theorem dX7_edge_130 : decode cX7_edge 130 = .ok (.aload_n 0, 1) := by decide +kernel
theorem dX7_edge_131 : decode cX7_edge 131 = .ok (.getfield 56, 3) := by decide +kernel
theorem dX7_edge_134 : decode cX7_edge 134 = .ok (.aload_n 0, 1) := by decide +kernel
theorem dX7_edge_135 : decode cX7_edge 135 = .ok (.getfield 26, 3) := by decide +kernel
theorem dX7_edge_138 : decode cX7_edge 138 = .ok (.iload_n 2, 1) := by decide +kernel
theorem dX7_edge_139 : decode cX7_edge 139 = .ok (.iaload, 1) := by decide +kernel
theorem dX7_edge_140 : decode cX7_edge 140 = .ok (.iastore, 1) := by decide +kernel
theorem dX7_edge_141 : decode cX7_edge 141 = .ok (.aload_n 0, 1) := by decide +kernel
theorem dX7_edge_142 : decode cX7_edge 142 = .ok (.getfield 26, 3) := by decide +kernel
theorem dX7_edge_145 : decode cX7_edge 145 = .ok (.iload_n 2, 1) := by decide +kernel
theorem dX7_edge_146 : decode cX7_edge 146 = .ok (.aload_n 0, 1) := by decide +kernel
theorem dX7_edge_147 : decode cX7_edge 147 = .ok (.getfield 56, 3) := by decide +kernel
theorem dX7_edge_150 : decode cX7_edge 150 = .ok (.iastore, 1) := by decide +kernel
theorem dX7_edge_151 : decode cX7_edge 151 = .ok (.aload_n 0, 1) := by decide +kernel
theorem dX7_edge_152 : decode cX7_edge 152 = .ok (.dup, 1) := by decide +kernel
theorem dX7_edge_153 : decode cX7_edge 153 = .ok (.getfield 56, 3) := by decide +kernel
theorem dX7_edge_156 : decode cX7_edge 156 = .ok (.iconst 1, 1) := by decide +kernel
theorem dX7_edge_157 : decode cX7_edge 157 = .ok (.iadd, 1) := by decide +kernel
theorem dX7_edge_158 : decode cX7_edge 158 = .ok (.putfield 56, 3) := by decide +kernel
theorem dX7_edge_161 : decode cX7_edge 161 = .ok (.return_, 1) := by decide +kernel
abbrev tl_X7_edge_0 : List (Nat × oOp) := [(0, o_ald 0 1), (1, o_getI [7] 10 4), (4, o_push (vI 1) 5), (5, o_ib fAdd 6), (6, o_push (vI 2548) 9), (9, o_ic pLt 13 12), (12, o_ret0 0 0), (13, o_ald 0 14), (14, o_getI [7] 13 17), (17, o_if zEq 25 20), (20, o_ild 4 22), (22, o_go 26), (25, o_push (vI 0) 26), (26, o_ist 5 28), (28, o_ald 0 29), (29, o_getR [7] 0 32), (32, o_ald 0 33), (33, o_getI [7] 10 36), (36, o_ild 2 37), (37, o_iast 38), (38, o_ald 0 39), (39, o_getR [7] 1 42), (42, o_ald 0 43), (43, o_getI [7] 10 46)]
abbrev tl_X7_edge_1 : List (Nat × oOp) := [(46, o_ild 3 47), (47, o_iast 48), (48, o_ald 0 49), (49, o_getR [7] 2 52), (52, o_ald 0 53), (53, o_getI [7] 10 56), (56, o_ild 5 58), (58, o_iast 59), (59, o_ald 0 60), (60, o_getR [7] 3 63), (63, o_ald 0 64), (64, o_getI [7] 10 67), (67, o_ald 0 68), (68, o_getR [7] 4 71), (71, o_ild 1 72), (72, o_xald 13 73), (73, o_iast 74), (74, o_ald 0 75), (75, o_getR [7] 4 78), (78, o_ild 1 79), (79, o_ald 0 80), (80, o_getI [7] 10 83), (83, o_iast 84), (84, o_ald 0 85)]
abbrev tl_X7_edge_2 : List (Nat × oOp) := [(85, o_dup 86), (86, o_getI [7] 10 89), (89, o_push (vI 1) 90), (90, o_ib fAdd 91), (91, o_putI [7] 10 94), (94, o_ald 0 95), (95, o_getR [7] 0 98), (98, o_ald 0 99), (99, o_getI [7] 10 102), (102, o_ild 1 103), (103, o_iast 104), (104, o_ald 0 105), (105, o_getR [7] 1 108), (108, o_ald 0 109), (109, o_getI [7] 10 112), (112, o_push (vI 0) 113), (113, o_iast 114), (114, o_ald 0 115), (115, o_getR [7] 2 118), (118, o_ald 0 119), (119, o_getI [7] 10 122), (122, o_ild 5 124), (124, o_neg 125), (125, o_iast 126)]
abbrev tl_X7_edge_3 : List (Nat × oOp) := [(126, o_ald 0 127), (127, o_getR [7] 3 130), (130, o_ald 0 131), (131, o_getI [7] 10 134), (134, o_ald 0 135), (135, o_getR [7] 4 138), (138, o_ild 2 139), (139, o_xald 13 140), (140, o_iast 141), (141, o_ald 0 142), (142, o_getR [7] 4 145), (145, o_ild 2 146), (146, o_ald 0 147), (147, o_getI [7] 10 150), (150, o_iast 151), (151, o_ald 0 152), (152, o_dup 153), (153, o_getI [7] 10 156), (156, o_push (vI 1) 157), (157, o_ib fAdd 158), (158, o_putI [7] 10 161), (161, o_ret0 0 0)]
set_option maxRecDepth 20000 in
def tb_X7_edge : Nat → oOp := oTab [(0, o_ald 0 1), (1, o_getI [7] 10 4), (4, o_push (vI 1) 5), (5, o_ib fAdd 6), (6, o_push (vI 2548) 9), (9, o_ic pLt 13 12), (12, o_ret0 0 0), (13, o_ald 0 14), (14, o_getI [7] 13 17), (17, o_if zEq 25 20), (20, o_ild 4 22), (22, o_go 26), (25, o_push (vI 0) 26), (26, o_ist 5 28), (28, o_ald 0 29), (29, o_getR [7] 0 32), (32, o_ald 0 33), (33, o_getI [7] 10 36), (36, o_ild 2 37), (37, o_iast 38), (38, o_ald 0 39), (39, o_getR [7] 1 42), (42, o_ald 0 43), (43, o_getI [7] 10 46), (46, o_ild 3 47), (47, o_iast 48), (48, o_ald 0 49), (49, o_getR [7] 2 52), (52, o_ald 0 53), (53, o_getI [7] 10 56), (56, o_ild 5 58), (58, o_iast 59), (59, o_ald 0 60), (60, o_getR [7] 3 63), (63, o_ald 0 64), (64, o_getI [7] 10 67), (67, o_ald 0 68), (68, o_getR [7] 4 71), (71, o_ild 1 72), (72, o_xald 13 73), (73, o_iast 74), (74, o_ald 0 75), (75, o_getR [7] 4 78), (78, o_ild 1 79), (79, o_ald 0 80), (80, o_getI [7] 10 83), (83, o_iast 84), (84, o_ald 0 85), (85, o_dup 86), (86, o_getI [7] 10 89), (89, o_push (vI 1) 90), (90, o_ib fAdd 91), (91, o_putI [7] 10 94), (94, o_ald 0 95), (95, o_getR [7] 0 98), (98, o_ald 0 99), (99, o_getI [7] 10 102), (102, o_ild 1 103), (103, o_iast 104), (104, o_ald 0 105), (105, o_getR [7] 1 108), (108, o_ald 0 109), (109, o_getI [7] 10 112), (112, o_push (vI 0) 113), (113, o_iast 114), (114, o_ald 0 115), (115, o_getR [7] 2 118), (118, o_ald 0 119), (119, o_getI [7] 10 122), (122, o_ild 5 124), (124, o_neg 125), (125, o_iast 126), (126, o_ald 0 127), (127, o_getR [7] 3 130), (130, o_ald 0 131), (131, o_getI [7] 10 134), (134, o_ald 0 135), (135, o_getR [7] 4 138), (138, o_ild 2 139), (139, o_xald 13 140), (140, o_iast 141), (141, o_ald 0 142), (142, o_getR [7] 4 145), (145, o_ild 2 146), (146, o_ald 0 147), (147, o_getI [7] 10 150), (150, o_iast 151), (151, o_ald 0 152), (152, o_dup 153), (153, o_getI [7] 10 156), (156, o_push (vI 1) 157), (157, o_ib fAdd 158), (158, o_putI [7] 10 161), (161, o_ret0 0 0)]
def T_X7_edge : List oA → oM → oQ → Prop := oT tb_X7_edge 6
set_option maxRecDepth 20000 in
theorem sn_X7_edge_0 {p : Program} {l : Launch} {e : Env} {s : State} {m : MethodId} {args : Array Value} {below : List Frame} {meth : Method} {c : Code} {D : va_G} {ids : Nat → ClassId} {b : Nat} {Q : oQ} (C : oCx p s m args c cX7_edge 6 (yX7_edge).cls D ids b) (hr : meth.sig.returnType = none) (hlk : meth.locks = false) (hnm : meth.name = (yX7_edge).name) : ∀ q ∈ tl_X7_edge_0, oSn (oW p l e (oRm 0 0 0 0) s m args below meth c 6 D ids b (oMQ D ids b below Q args s 0 0)) Q q.1 q.2 := List.forall_mem_cons.mpr ⟨so_aload_n C 0 rfl dX7_edge_0, List.forall_mem_cons.mpr ⟨so_getI C [7] 10 (fd_RX7_56_7 C) (by decide) dX7_edge_1, List.forall_mem_cons.mpr ⟨so_iconst C 1 rfl dX7_edge_4, List.forall_mem_cons.mpr ⟨so_iadd C dX7_edge_5, List.forall_mem_cons.mpr ⟨so_sipush C 2548 rfl dX7_edge_6, List.forall_mem_cons.mpr ⟨so_ic_lt C (by decide) dX7_edge_9, List.forall_mem_cons.mpr ⟨so_ret0 C 0 0 hr hlk dX7_edge_12, List.forall_mem_cons.mpr ⟨so_aload_n C 0 rfl dX7_edge_13, List.forall_mem_cons.mpr ⟨so_getI C [7] 13 (fd_RX7_52_7 C) (by decide) dX7_edge_14, List.forall_mem_cons.mpr ⟨so_if_eq C (by decide) dX7_edge_17, List.forall_mem_cons.mpr ⟨so_iload C 4 dX7_edge_20, List.forall_mem_cons.mpr ⟨so_goto C (by decide) dX7_edge_22, List.forall_mem_cons.mpr ⟨so_iconst C 0 rfl dX7_edge_25, List.forall_mem_cons.mpr ⟨so_istore C 5 (by decide) dX7_edge_26, List.forall_mem_cons.mpr ⟨so_aload_n C 0 rfl dX7_edge_28, List.forall_mem_cons.mpr ⟨so_getR C [7] 0 (fd_RX7_13_7 C) (ft_7_0) dX7_edge_29, List.forall_mem_cons.mpr ⟨so_aload_n C 0 rfl dX7_edge_32, List.forall_mem_cons.mpr ⟨so_getI C [7] 10 (fd_RX7_56_7 C) (by decide) dX7_edge_33, List.forall_mem_cons.mpr ⟨so_iload_n C 2 rfl dX7_edge_36, List.forall_mem_cons.mpr ⟨so_iast C dX7_edge_37, List.forall_mem_cons.mpr ⟨so_aload_n C 0 rfl dX7_edge_38, List.forall_mem_cons.mpr ⟨so_getR C [7] 1 (fd_RX7_17_7 C) (ft_7_1) dX7_edge_39, List.forall_mem_cons.mpr ⟨so_aload_n C 0 rfl dX7_edge_42, List.forall_mem_cons.mpr ⟨so_getI C [7] 10 (fd_RX7_56_7 C) (by decide) dX7_edge_43, fun _ h => absurd h List.not_mem_nil⟩⟩⟩⟩⟩⟩⟩⟩⟩⟩⟩⟩⟩⟩⟩⟩⟩⟩⟩⟩⟩⟩⟩⟩
set_option maxRecDepth 20000 in
theorem sn_X7_edge_1 {p : Program} {l : Launch} {e : Env} {s : State} {m : MethodId} {args : Array Value} {below : List Frame} {meth : Method} {c : Code} {D : va_G} {ids : Nat → ClassId} {b : Nat} {Q : oQ} (C : oCx p s m args c cX7_edge 6 (yX7_edge).cls D ids b) (hr : meth.sig.returnType = none) (hlk : meth.locks = false) (hnm : meth.name = (yX7_edge).name) : ∀ q ∈ tl_X7_edge_1, oSn (oW p l e (oRm 0 0 0 0) s m args below meth c 6 D ids b (oMQ D ids b below Q args s 0 0)) Q q.1 q.2 := List.forall_mem_cons.mpr ⟨so_iload_n C 3 rfl dX7_edge_46, List.forall_mem_cons.mpr ⟨so_iast C dX7_edge_47, List.forall_mem_cons.mpr ⟨so_aload_n C 0 rfl dX7_edge_48, List.forall_mem_cons.mpr ⟨so_getR C [7] 2 (fd_RX7_20_7 C) (ft_7_2) dX7_edge_49, List.forall_mem_cons.mpr ⟨so_aload_n C 0 rfl dX7_edge_52, List.forall_mem_cons.mpr ⟨so_getI C [7] 10 (fd_RX7_56_7 C) (by decide) dX7_edge_53, List.forall_mem_cons.mpr ⟨so_iload C 5 dX7_edge_56, List.forall_mem_cons.mpr ⟨so_iast C dX7_edge_58, List.forall_mem_cons.mpr ⟨so_aload_n C 0 rfl dX7_edge_59, List.forall_mem_cons.mpr ⟨so_getR C [7] 3 (fd_RX7_23_7 C) (ft_7_3) dX7_edge_60, List.forall_mem_cons.mpr ⟨so_aload_n C 0 rfl dX7_edge_63, List.forall_mem_cons.mpr ⟨so_getI C [7] 10 (fd_RX7_56_7 C) (by decide) dX7_edge_64, List.forall_mem_cons.mpr ⟨so_aload_n C 0 rfl dX7_edge_67, List.forall_mem_cons.mpr ⟨so_getR C [7] 4 (fd_RX7_26_7 C) (ft_7_4) dX7_edge_68, List.forall_mem_cons.mpr ⟨so_iload_n C 1 rfl dX7_edge_71, List.forall_mem_cons.mpr ⟨so_iald C dX7_edge_72, List.forall_mem_cons.mpr ⟨so_iast C dX7_edge_73, List.forall_mem_cons.mpr ⟨so_aload_n C 0 rfl dX7_edge_74, List.forall_mem_cons.mpr ⟨so_getR C [7] 4 (fd_RX7_26_7 C) (ft_7_4) dX7_edge_75, List.forall_mem_cons.mpr ⟨so_iload_n C 1 rfl dX7_edge_78, List.forall_mem_cons.mpr ⟨so_aload_n C 0 rfl dX7_edge_79, List.forall_mem_cons.mpr ⟨so_getI C [7] 10 (fd_RX7_56_7 C) (by decide) dX7_edge_80, List.forall_mem_cons.mpr ⟨so_iast C dX7_edge_83, List.forall_mem_cons.mpr ⟨so_aload_n C 0 rfl dX7_edge_84, fun _ h => absurd h List.not_mem_nil⟩⟩⟩⟩⟩⟩⟩⟩⟩⟩⟩⟩⟩⟩⟩⟩⟩⟩⟩⟩⟩⟩⟩⟩
set_option maxRecDepth 20000 in
theorem sn_X7_edge_2 {p : Program} {l : Launch} {e : Env} {s : State} {m : MethodId} {args : Array Value} {below : List Frame} {meth : Method} {c : Code} {D : va_G} {ids : Nat → ClassId} {b : Nat} {Q : oQ} (C : oCx p s m args c cX7_edge 6 (yX7_edge).cls D ids b) (hr : meth.sig.returnType = none) (hlk : meth.locks = false) (hnm : meth.name = (yX7_edge).name) : ∀ q ∈ tl_X7_edge_2, oSn (oW p l e (oRm 0 0 0 0) s m args below meth c 6 D ids b (oMQ D ids b below Q args s 0 0)) Q q.1 q.2 := List.forall_mem_cons.mpr ⟨so_dup C dX7_edge_85, List.forall_mem_cons.mpr ⟨so_getI C [7] 10 (fd_RX7_56_7 C) (by decide) dX7_edge_86, List.forall_mem_cons.mpr ⟨so_iconst C 1 rfl dX7_edge_89, List.forall_mem_cons.mpr ⟨so_iadd C dX7_edge_90, List.forall_mem_cons.mpr ⟨so_putI C [7] 10 (fd_RX7_56_7 C) (fn_7_10) (by decide) dX7_edge_91, List.forall_mem_cons.mpr ⟨so_aload_n C 0 rfl dX7_edge_94, List.forall_mem_cons.mpr ⟨so_getR C [7] 0 (fd_RX7_13_7 C) (ft_7_0) dX7_edge_95, List.forall_mem_cons.mpr ⟨so_aload_n C 0 rfl dX7_edge_98, List.forall_mem_cons.mpr ⟨so_getI C [7] 10 (fd_RX7_56_7 C) (by decide) dX7_edge_99, List.forall_mem_cons.mpr ⟨so_iload_n C 1 rfl dX7_edge_102, List.forall_mem_cons.mpr ⟨so_iast C dX7_edge_103, List.forall_mem_cons.mpr ⟨so_aload_n C 0 rfl dX7_edge_104, List.forall_mem_cons.mpr ⟨so_getR C [7] 1 (fd_RX7_17_7 C) (ft_7_1) dX7_edge_105, List.forall_mem_cons.mpr ⟨so_aload_n C 0 rfl dX7_edge_108, List.forall_mem_cons.mpr ⟨so_getI C [7] 10 (fd_RX7_56_7 C) (by decide) dX7_edge_109, List.forall_mem_cons.mpr ⟨so_iconst C 0 rfl dX7_edge_112, List.forall_mem_cons.mpr ⟨so_iast C dX7_edge_113, List.forall_mem_cons.mpr ⟨so_aload_n C 0 rfl dX7_edge_114, List.forall_mem_cons.mpr ⟨so_getR C [7] 2 (fd_RX7_20_7 C) (ft_7_2) dX7_edge_115, List.forall_mem_cons.mpr ⟨so_aload_n C 0 rfl dX7_edge_118, List.forall_mem_cons.mpr ⟨so_getI C [7] 10 (fd_RX7_56_7 C) (by decide) dX7_edge_119, List.forall_mem_cons.mpr ⟨so_iload C 5 dX7_edge_122, List.forall_mem_cons.mpr ⟨so_ineg C dX7_edge_124, List.forall_mem_cons.mpr ⟨so_iast C dX7_edge_125, fun _ h => absurd h List.not_mem_nil⟩⟩⟩⟩⟩⟩⟩⟩⟩⟩⟩⟩⟩⟩⟩⟩⟩⟩⟩⟩⟩⟩⟩⟩
set_option maxRecDepth 20000 in
theorem sn_X7_edge_3 {p : Program} {l : Launch} {e : Env} {s : State} {m : MethodId} {args : Array Value} {below : List Frame} {meth : Method} {c : Code} {D : va_G} {ids : Nat → ClassId} {b : Nat} {Q : oQ} (C : oCx p s m args c cX7_edge 6 (yX7_edge).cls D ids b) (hr : meth.sig.returnType = none) (hlk : meth.locks = false) (hnm : meth.name = (yX7_edge).name) : ∀ q ∈ tl_X7_edge_3, oSn (oW p l e (oRm 0 0 0 0) s m args below meth c 6 D ids b (oMQ D ids b below Q args s 0 0)) Q q.1 q.2 := List.forall_mem_cons.mpr ⟨so_aload_n C 0 rfl dX7_edge_126, List.forall_mem_cons.mpr ⟨so_getR C [7] 3 (fd_RX7_23_7 C) (ft_7_3) dX7_edge_127, List.forall_mem_cons.mpr ⟨so_aload_n C 0 rfl dX7_edge_130, List.forall_mem_cons.mpr ⟨so_getI C [7] 10 (fd_RX7_56_7 C) (by decide) dX7_edge_131, List.forall_mem_cons.mpr ⟨so_aload_n C 0 rfl dX7_edge_134, List.forall_mem_cons.mpr ⟨so_getR C [7] 4 (fd_RX7_26_7 C) (ft_7_4) dX7_edge_135, List.forall_mem_cons.mpr ⟨so_iload_n C 2 rfl dX7_edge_138, List.forall_mem_cons.mpr ⟨so_iald C dX7_edge_139, List.forall_mem_cons.mpr ⟨so_iast C dX7_edge_140, List.forall_mem_cons.mpr ⟨so_aload_n C 0 rfl dX7_edge_141, List.forall_mem_cons.mpr ⟨so_getR C [7] 4 (fd_RX7_26_7 C) (ft_7_4) dX7_edge_142, List.forall_mem_cons.mpr ⟨so_iload_n C 2 rfl dX7_edge_145, List.forall_mem_cons.mpr ⟨so_aload_n C 0 rfl dX7_edge_146, List.forall_mem_cons.mpr ⟨so_getI C [7] 10 (fd_RX7_56_7 C) (by decide) dX7_edge_147, List.forall_mem_cons.mpr ⟨so_iast C dX7_edge_150, List.forall_mem_cons.mpr ⟨so_aload_n C 0 rfl dX7_edge_151, List.forall_mem_cons.mpr ⟨so_dup C dX7_edge_152, List.forall_mem_cons.mpr ⟨so_getI C [7] 10 (fd_RX7_56_7 C) (by decide) dX7_edge_153, List.forall_mem_cons.mpr ⟨so_iconst C 1 rfl dX7_edge_156, List.forall_mem_cons.mpr ⟨so_iadd C dX7_edge_157, List.forall_mem_cons.mpr ⟨so_putI C [7] 10 (fd_RX7_56_7 C) (fn_7_10) (by decide) dX7_edge_158, List.forall_mem_cons.mpr ⟨so_ret0 C 0 0 hr hlk dX7_edge_161, fun _ h => absurd h List.not_mem_nil⟩⟩⟩⟩⟩⟩⟩⟩⟩⟩⟩⟩⟩⟩⟩⟩⟩⟩⟩⟩⟩⟩
set_option maxRecDepth 20000 in
theorem c_X7_edge (l : Launch) (D : va_G) (ids : Nat → ClassId) : oMT l D ids yX7_edge cX7_edge 6 none 0 0 0 0 T_X7_edge := oMet l D ids tb_X7_edge (by decide) (fun p e s m args below meth c b Q C hr hlk hnm => oTab_all (tl_X7_edge_0 ++ (tl_X7_edge_1 ++ (tl_X7_edge_2 ++ (tl_X7_edge_3)))) (List.forall_mem_append.mpr ⟨sn_X7_edge_0 C hr hlk hnm, List.forall_mem_append.mpr ⟨sn_X7_edge_1 C hr hlk hnm, List.forall_mem_append.mpr ⟨sn_X7_edge_2 C hr hlk hnm, sn_X7_edge_3 C hr hlk hnm⟩⟩⟩))
theorem dX7_addNode_0 : decode cX7_addNode 0 = .ok (.aload_n 0, 1) := by decide +kernel
theorem dX7_addNode_1 : decode cX7_addNode 1 = .ok (.getfield 48, 3) := by decide +kernel
theorem dX7_addNode_4 : decode cX7_addNode 4 = .ok (.sipush 324, 3) := by decide +kernel
theorem dX7_addNode_7 : decode cX7_addNode 7 = .ok (.if_icmp .ge 13, 3) := by decide +kernel
theorem dX7_addNode_10 : decode cX7_addNode 10 = .ok (.aload_n 0, 1) := by decide +kernel
theorem dX7_addNode_11 : decode cX7_addNode 11 = .ok (.dup, 1) := by decide +kernel
theorem dX7_addNode_12 : decode cX7_addNode 12 = .ok (.getfield 48, 3) := by decide +kernel
theorem dX7_addNode_15 : decode cX7_addNode 15 = .ok (.iconst 1, 1) := by decide +kernel
theorem dX7_addNode_16 : decode cX7_addNode 16 = .ok (.iadd, 1) := by decide +kernel
theorem dX7_addNode_17 : decode cX7_addNode 17 = .ok (.putfield 48, 3) := by decide +kernel
theorem dX7_addNode_20 : decode cX7_addNode 20 = .ok (.aload_n 0, 1) := by decide +kernel
theorem dX7_addNode_21 : decode cX7_addNode 21 = .ok (.getfield 48, 3) := by decide +kernel
theorem dX7_addNode_24 : decode cX7_addNode 24 = .ok (.iconst 1, 1) := by decide +kernel
theorem dX7_addNode_25 : decode cX7_addNode 25 = .ok (.isub, 1) := by decide +kernel
theorem dX7_addNode_26 : decode cX7_addNode 26 = .ok (.ireturn, 1) := by decide +kernel
abbrev tl_X7_addNode_0 : List (Nat × oOp) := [(0, o_ald 0 1), (1, o_getI [7] 9 4), (4, o_push (vI 324) 7), (7, o_ic pGe 20 10), (10, o_ald 0 11), (11, o_dup 12), (12, o_getI [7] 9 15), (15, o_push (vI 1) 16), (16, o_ib fAdd 17), (17, o_putI [7] 9 20), (20, o_ald 0 21), (21, o_getI [7] 9 24), (24, o_push (vI 1) 25), (25, o_ib fSub 26), (26, o_reti 0 0)]
set_option maxRecDepth 20000 in
def tb_X7_addNode : Nat → oOp := oTab [(0, o_ald 0 1), (1, o_getI [7] 9 4), (4, o_push (vI 324) 7), (7, o_ic pGe 20 10), (10, o_ald 0 11), (11, o_dup 12), (12, o_getI [7] 9 15), (15, o_push (vI 1) 16), (16, o_ib fAdd 17), (17, o_putI [7] 9 20), (20, o_ald 0 21), (21, o_getI [7] 9 24), (24, o_push (vI 1) 25), (25, o_ib fSub 26), (26, o_reti 0 0)]
def T_X7_addNode : List oA → oM → oQ → Prop := oT tb_X7_addNode 1
set_option maxRecDepth 20000 in
theorem sn_X7_addNode_0 {p : Program} {l : Launch} {e : Env} {s : State} {m : MethodId} {args : Array Value} {below : List Frame} {meth : Method} {c : Code} {D : va_G} {ids : Nat → ClassId} {b : Nat} {Q : oQ} (C : oCx p s m args c cX7_addNode 1 (yX7_addNode).cls D ids b) (hr : meth.sig.returnType = (some .int)) (hlk : meth.locks = false) (hnm : meth.name = (yX7_addNode).name) : ∀ q ∈ tl_X7_addNode_0, oSn (oW p l e (oRm 0 0 0 0) s m args below meth c 1 D ids b (oMQ D ids b below Q args s 0 0)) Q q.1 q.2 := List.forall_mem_cons.mpr ⟨so_aload_n C 0 rfl dX7_addNode_0, List.forall_mem_cons.mpr ⟨so_getI C [7] 9 (fd_RX7_48_7 C) (by decide) dX7_addNode_1, List.forall_mem_cons.mpr ⟨so_sipush C 324 rfl dX7_addNode_4, List.forall_mem_cons.mpr ⟨so_ic_ge C (by decide) dX7_addNode_7, List.forall_mem_cons.mpr ⟨so_aload_n C 0 rfl dX7_addNode_10, List.forall_mem_cons.mpr ⟨so_dup C dX7_addNode_11, List.forall_mem_cons.mpr ⟨so_getI C [7] 9 (fd_RX7_48_7 C) (by decide) dX7_addNode_12, List.forall_mem_cons.mpr ⟨so_iconst C 1 rfl dX7_addNode_15, List.forall_mem_cons.mpr ⟨so_iadd C dX7_addNode_16, List.forall_mem_cons.mpr ⟨so_putI C [7] 9 (fd_RX7_48_7 C) (fn_7_9) (by decide) dX7_addNode_17, List.forall_mem_cons.mpr ⟨so_aload_n C 0 rfl dX7_addNode_20, List.forall_mem_cons.mpr ⟨so_getI C [7] 9 (fd_RX7_48_7 C) (by decide) dX7_addNode_21, List.forall_mem_cons.mpr ⟨so_iconst C 1 rfl dX7_addNode_24, List.forall_mem_cons.mpr ⟨so_isub C dX7_addNode_25, List.forall_mem_cons.mpr ⟨so_reti C 0 0 hr hlk dX7_addNode_26, fun _ h => absurd h List.not_mem_nil⟩⟩⟩⟩⟩⟩⟩⟩⟩⟩⟩⟩⟩⟩⟩
set_option maxRecDepth 20000 in
theorem c_X7_addNode (l : Launch) (D : va_G) (ids : Nat → ClassId) : oMT l D ids yX7_addNode cX7_addNode 1 (some .int) 0 0 0 0 T_X7_addNode := oMet l D ids tb_X7_addNode (by decide) (fun p e s m args below meth c b Q C hr hlk hnm => oTab_all (tl_X7_addNode_0) (sn_X7_addNode_0 C hr hlk hnm))
theorem dX2_lay_0 : decode cX2_lay 0 = .ok (.aload_n 2, 1) := by decide +kernel
theorem dX2_lay_1 : decode cX2_lay 1 = .ok (.aload_n 1, 1) := by decide +kernel
theorem dX2_lay_2 : decode cX2_lay 2 = .ok (.getfield 72, 3) := by decide +kernel
theorem dX2_lay_5 : decode cX2_lay 5 = .ok (.iload_n 3, 1) := by decide +kernel
theorem dX2_lay_6 : decode cX2_lay 6 = .ok (.aload_n 0, 1) := by decide +kernel
theorem dX2_lay_7 : decode cX2_lay 7 = .ok (.getfield 18, 3) := by decide +kernel
theorem dX2_lay_10 : decode cX2_lay 10 = .ok (.invokevirtual 77, 3) := by decide +kernel
theorem dX2_lay_13 : decode cX2_lay 13 = .ok (.aload_n 0, 1) := by decide +kernel
theorem dX2_lay_14 : decode cX2_lay 14 = .ok (.aload_n 1, 1) := by decide +kernel
theorem dX2_lay_15 : decode cX2_lay 15 = .ok (.getfield 81, 3) := by decide +kernel
theorem dX2_lay_18 : decode cX2_lay 18 = .ok (.iload 4, 2) := by decide +kernel
theorem dX2_lay_20 : decode cX2_lay 20 = .ok (.invokevirtual 84, 3) := by decide +kernel
theorem dX2_lay_23 : decode cX2_lay 23 = .ok (.iconst 0, 1) := by decide +kernel
theorem dX2_lay_24 : decode cX2_lay 24 = .ok (.istore 5, 2) := by decide +kernel
theorem dX2_lay_26 : decode cX2_lay 26 = .ok (.iload 5, 2) := by decide +kernel
theorem dX2_lay_28 : decode cX2_lay 28 = .ok (.aload_n 1, 1) := by decide +kernel
theorem dX2_lay_29 : decode cX2_lay 29 = .ok (.getfield 72, 3) := by decide +kernel
theorem dX2_lay_32 : decode cX2_lay 32 = .ok (.if_icmp .ge 29, 3) := by decide +kernel
theorem dX2_lay_35 : decode cX2_lay 35 = .ok (.aload_n 0, 1) := by decide +kernel
theorem dX2_lay_36 : decode cX2_lay 36 = .ok (.getfield 28, 3) := by decide +kernel
theorem dX2_lay_39 : decode cX2_lay 39 = .ok (.iconst 0, 1) := by decide +kernel
theorem dX2_lay_40 : decode cX2_lay 40 = .ok (.iconst 2, 1) := by decide +kernel
theorem dX2_lay_41 : decode cX2_lay 41 = .ok (.iload 5, 2) := by decide +kernel
theorem dX2_lay_43 : decode cX2_lay 43 = .ok (.iadd, 1) := by decide +kernel
theorem dX2_lay_44 : decode cX2_lay 44 = .ok (.aload_n 1, 1) := by decide +kernel
theorem dX2_lay_45 : decode cX2_lay 45 = .ok (.getfield 88, 3) := by decide +kernel
theorem dX2_lay_48 : decode cX2_lay 48 = .ok (.iload 5, 2) := by decide +kernel
theorem dX2_lay_50 : decode cX2_lay 50 = .ok (.iaload, 1) := by decide +kernel
theorem dX2_lay_51 : decode cX2_lay 51 = .ok (.iconst 0, 1) := by decide +kernel
theorem dX2_lay_52 : decode cX2_lay 52 = .ok (.invokevirtual 49, 3) := by decide +kernel
theorem dX2_lay_55 : decode cX2_lay 55 = .ok (.iinc 5 1, 3) := by decide +kernel
theorem dX2_lay_58 : decode cX2_lay 58 = .ok (.goto (-32), 3) := by decide +kernel
theorem dX2_lay_61 : decode cX2_lay 61 = .ok (.iconst 0, 1) := by decide +kernel
theorem dX2_lay_62 : decode cX2_lay 62 = .ok (.istore 5, 2) := by decide +kernel
theorem dX2_lay_64 : decode cX2_lay 64 = .ok (.iload 5, 2) := by decide +kernel
theorem dX2_lay_66 : decode cX2_lay 66 = .ok (.aload_n 0, 1) := by decide +kernel
theorem dX2_lay_67 : decode cX2_lay 67 = .ok (.getfield 22, 3) := by decide +kernel
theorem dX2_lay_70 : decode cX2_lay 70 = .ok (.arraylength, 1) := by decide +kernel
theorem dX2_lay_71 : decode cX2_lay 71 = .ok (.if_icmp .ge 207, 3) := by decide +kernel
theorem dX2_lay_74 : decode cX2_lay 74 = .ok (.aload_n 0, 1) := by decide +kernel
theorem dX2_lay_75 : decode cX2_lay 75 = .ok (.getfield 22, 3) := by decide +kernel
theorem dX2_lay_78 : decode cX2_lay 78 = .ok (.iload 5, 2) := by decide +kernel
theorem dX2_lay_80 : decode cX2_lay 80 = .ok (.iaload, 1) := by decide +kernel
theorem dX2_lay_81 : decode cX2_lay 81 = .ok (.aload_n 1, 1) := by decide +kernel
theorem dX2_lay_82 : decode cX2_lay 82 = .ok (.getfield 91, 3) := by decide +kernel
theorem dX2_lay_85 : decode cX2_lay 85 = .ok (.imul, 1) := by decide +kernel
theorem dX2_lay_86 : decode cX2_lay 86 = .ok (.istore 6, 2) := by decide +kernel
theorem dX2_lay_88 : decode cX2_lay 88 = .ok (.iload 6, 2) := by decide +kernel
theorem dX2_lay_90 : decode cX2_lay 90 = .ok (.ifCond .ne 6, 3) := by decide +kernel
theorem dX2_lay_93 : decode cX2_lay 93 = .ok (.goto 179, 3) := by decide +kernel
theorem dX2_lay_96 : decode cX2_lay 96 = .ok (.iload 5, 2) := by decide +kernel
theorem dX2_lay_98 : decode cX2_lay 98 = .ok (.bipush 19, 2) := by decide +kernel
theorem dX2_lay_100 : decode cX2_lay 100 = .ok (.idiv, 1) := by decide +kernel
theorem dX2_lay_101 : decode cX2_lay 101 = .ok (.istore 7, 2) := by decide +kernel
theorem dX2_lay_103 : decode cX2_lay 103 = .ok (.iload 5, 2) := by decide +kernel
theorem dX2_lay_105 : decode cX2_lay 105 = .ok (.bipush 19, 2) := by decide +kernel
theorem dX2_lay_107 : decode cX2_lay 107 = .ok (.irem, 1) := by decide +kernel
theorem dX2_lay_108 : decode cX2_lay 108 = .ok (.bipush 9, 2) := by decide +kernel
theorem dX2_lay_110 : decode cX2_lay 110 = .ok (.isub, 1) := by decide +kernel
theorem dX2_lay_111 : decode cX2_lay 111 = .ok (.istore 8, 2) := by decide +kernel
theorem dX2_lay_113 : decode cX2_lay 113 = .ok (.aload_n 0, 1) := by decide +kernel
theorem dX2_lay_114 : decode cX2_lay 114 = .ok (.getfield 28, 3) := by decide +kernel
theorem dX2_lay_117 : decode cX2_lay 117 = .ok (.invokevirtual 94, 3) := by decide +kernel
theorem dX2_lay_120 : decode cX2_lay 120 = .ok (.istore 9, 2) := by decide +kernel
theorem dX2_lay_122 : decode cX2_lay 122 = .ok (.aload_n 0, 1) := by decide +kernel
theorem dX2_lay_123 : decode cX2_lay 123 = .ok (.getfield 28, 3) := by decide +kernel
theorem dX2_lay_126 : decode cX2_lay 126 = .ok (.invokevirtual 94, 3) := by decide +kernel
theorem dX2_lay_129 : decode cX2_lay 129 = .ok (.istore 10, 2) := by decide +kernel
theorem dX2_lay_131 : decode cX2_lay 131 = .ok (.aload_n 0, 1) := by decide +kernel
theorem dX2_lay_132 : decode cX2_lay 132 = .ok (.getfield 28, 3) := by decide +kernel
theorem dX2_lay_135 : decode cX2_lay 135 = .ok (.iload 9, 2) := by decide +kernel
theorem dX2_lay_137 : decode cX2_lay 137 = .ok (.iload 10, 2) := by decide +kernel
theorem dX2_lay_139 : decode cX2_lay 139 = .ok (.iload 6, 2) := by decide +kernel
theorem dX2_lay_141 : decode cX2_lay 141 = .ok (.iconst 0, 1) := by decide +kernel
theorem dX2_lay_142 : decode cX2_lay 142 = .ok (.invokevirtual 49, 3) := by decide +kernel
theorem dX2_lay_145 : decode cX2_lay 145 = .ok (.aload_n 0, 1) := by decide +kernel
theorem dX2_lay_146 : decode cX2_lay 146 = .ok (.getfield 28, 3) := by decide +kernel
theorem dX2_lay_149 : decode cX2_lay 149 = .ok (.iconst 2, 1) := by decide +kernel
theorem dX2_lay_150 : decode cX2_lay 150 = .ok (.iload 7, 2) := by decide +kernel
theorem dX2_lay_152 : decode cX2_lay 152 = .ok (.iadd, 1) := by decide +kernel
theorem dX2_lay_153 : decode cX2_lay 153 = .ok (.iload 9, 2) := by decide +kernel
theorem dX2_lay_155 : decode cX2_lay 155 = .ok (.iload 6, 2) := by decide +kernel
theorem dX2_lay_157 : decode cX2_lay 157 = .ok (.iconst 0, 1) := by decide +kernel
theorem dX2_lay_158 : decode cX2_lay 158 = .ok (.invokevirtual 49, 3) := by decide +kernel
theorem dX2_lay_161 : decode cX2_lay 161 = .ok (.iload 7, 2) := by decide +kernel
theorem dX2_lay_163 : decode cX2_lay 163 = .ok (.ifCond .le 27, 3) := by decide +kernel
theorem dX2_lay_166 : decode cX2_lay 166 = .ok (.iload 8, 2) := by decide +kernel
theorem dX2_lay_168 : decode cX2_lay 168 = .ok (.iload 7, 2) := by decide +kernel
theorem dX2_lay_170 : decode cX2_lay 170 = .ok (.iload 4, 2) := by decide +kernel
theorem dX2_lay_172 : decode cX2_lay 172 = .ok (.isub, 1) := by decide +kernel
theorem dX2_lay_173 : decode cX2_lay 173 = .ok (.if_icmp .lt 17, 3) := by decide +kernel
theorem dX2_lay_176 : decode cX2_lay 176 = .ok (.aload_n 0, 1) := by decide +kernel
theorem dX2_lay_177 : decode cX2_lay 177 = .ok (.getfield 28, 3) := by decide +kernel
theorem dX2_lay_180 : decode cX2_lay 180 = .ok (.iconst 2, 1) := by decide +kernel
theorem dX2_lay_181 : decode cX2_lay 181 = .ok (.iload 9, 2) := by decide +kernel
theorem dX2_lay_183 : decode cX2_lay 183 = .ok (.iload 6, 2) := by decide +kernel
theorem dX2_lay_185 : decode cX2_lay 185 = .ok (.iload 7, 2) := by decide +kernel
theorem dX2_lay_187 : decode cX2_lay 187 = .ok (.invokevirtual 49, 3) := by decide +kernel
theorem dX2_lay_190 : decode cX2_lay 190 = .ok (.iload 8, 2) := by decide +kernel
theorem dX2_lay_192 : decode cX2_lay 192 = .ok (.aload_n 1, 1) := by decide +kernel
theorem dX2_lay_193 : decode cX2_lay 193 = .ok (.getfield 97, 3) := by decide +kernel
theorem dX2_lay_196 : decode cX2_lay 196 = .ok (.iadd, 1) := by decide +kernel
theorem dX2_lay_197 : decode cX2_lay 197 = .ok (.aload_n 2, 1) := by decide +kernel
theorem dX2_lay_198 : decode cX2_lay 198 = .ok (.getfield 40, 3) := by decide +kernel
theorem dX2_lay_201 : decode cX2_lay 201 = .ok (.iconst 1, 1) := by decide +kernel
theorem dX2_lay_202 : decode cX2_lay 202 = .ok (.isub, 1) := by decide +kernel
theorem dX2_lay_203 : decode cX2_lay 203 = .ok (.invokestatic 100, 3) := by decide +kernel
theorem dX2_lay_206 : decode cX2_lay 206 = .ok (.istore 11, 2) := by decide +kernel
theorem dX2_lay_208 : decode cX2_lay 208 = .ok (.iload 8, 2) := by decide +kernel
theorem dX2_lay_210 : decode cX2_lay 210 = .ok (.iconst 0, 1) := by decide +kernel
theorem dX2_lay_211 : decode cX2_lay 211 = .ok (.invokestatic 106, 3) := by decide +kernel
theorem dX2_lay_214 : decode cX2_lay 214 = .ok (.istore 12, 2) := by decide +kernel
theorem dX2_lay_216 : decode cX2_lay 216 = .ok (.iload 12, 2) := by decide +kernel
theorem dX2_lay_218 : decode cX2_lay 218 = .ok (.iload 11, 2) := by decide +kernel
theorem dX2_lay_220 : decode cX2_lay 220 = .ok (.if_icmp .gt 52, 3) := by decide +kernel
theorem dX2_lay_223 : decode cX2_lay 223 = .ok (.aload_n 0, 1) := by decide +kernel
theorem dX2_lay_224 : decode cX2_lay 224 = .ok (.getfield 18, 3) := by decide +kernel
theorem dX2_lay_227 : decode cX2_lay 227 = .ok (.iload 12, 2) := by decide +kernel
theorem dX2_lay_229 : decode cX2_lay 229 = .ok (.iaload, 1) := by decide +kernel
theorem dX2_lay_230 : decode cX2_lay 230 = .ok (.iload 7, 2) := by decide +kernel
theorem dX2_lay_232 : decode cX2_lay 232 = .ok (.isub, 1) := by decide +kernel
theorem dX2_lay_233 : decode cX2_lay 233 = .ok (.invokestatic 109, 3) := by decide +kernel
theorem dX2_lay_236 : decode cX2_lay 236 = .ok (.istore 13, 2) := by decide +kernel
theorem dX2_lay_238 : decode cX2_lay 238 = .ok (.iload 12, 2) := by decide +kernel
theorem dX2_lay_240 : decode cX2_lay 240 = .ok (.iload 8, 2) := by decide +kernel
theorem dX2_lay_242 : decode cX2_lay 242 = .ok (.isub, 1) := by decide +kernel
theorem dX2_lay_243 : decode cX2_lay 243 = .ok (.iload 13, 2) := by decide +kernel
theorem dX2_lay_245 : decode cX2_lay 245 = .ok (.if_icmp .lt 21, 3) := by decide +kernel
theorem dX2_lay_248 : decode cX2_lay 248 = .ok (.aload_n 0, 1) := by decide +kernel
theorem dX2_lay_249 : decode cX2_lay 249 = .ok (.getfield 28, 3) := by decide +kernel
theorem dX2_lay_252 : decode cX2_lay 252 = .ok (.iload 10, 2) := by decide +kernel
theorem dX2_lay_254 : decode cX2_lay 254 = .ok (.bipush 10, 2) := by decide +kernel
theorem dX2_lay_256 : decode cX2_lay 256 = .ok (.iload 12, 2) := by decide +kernel
theorem dX2_lay_258 : decode cX2_lay 258 = .ok (.iadd, 1) := by decide +kernel
theorem dX2_lay_259 : decode cX2_lay 259 = .ok (.iload 6, 2) := by decide +kernel
theorem dX2_lay_261 : decode cX2_lay 261 = .ok (.iload 13, 2) := by decide +kernel
theorem dX2_lay_263 : decode cX2_lay 263 = .ok (.invokevirtual 49, 3) := by decide +kernel
theorem dX2_lay_266 : decode cX2_lay 266 = .ok (.iinc 12 1, 3) := by decide +kernel
theorem dX2_lay_269 : decode cX2_lay 269 = .ok (.goto (-53), 3) := by decide +kernel
theorem dX2_lay_272 : decode cX2_lay 272 = .ok (.iinc 5 1, 3) := by decide +kernel
theorem dX2_lay_275 : decode cX2_lay 275 = .ok (.goto (-211), 3) := by decide +kernel
theorem dX2_lay_278 : decode cX2_lay 278 = .ok (.return_, 1) := by decide +kernel
abbrev tl_X2_lay_0 : List (Nat × oOp) := [(0, o_ald 2 1), (1, o_ald 1 2), (2, o_getI [4] 0 5), (5, o_ild 3 6), (6, o_ald 0 7), (7, o_getR [2] 1 10), (10, o_callo T_X6_walk 6 3 0 0 0 0 13), (13, o_ald 0 14), (14, o_ald 1 15), (15, o_getI [4] 4 18), (18, o_ild 4 20), (20, o_callo T_X2_countBaking 2 2 0 0 0 0 23), (23, o_push (vI 0) 24), (24, o_ist 5 26), (26, o_ild 5 28), (28, o_ald 1 29), (29, o_getI [4] 0 32), (32, o_ic pGe 61 35), (35, o_ald 0 36), (36, o_getR [2] 3 39), (39, o_push (vI 0) 40), (40, o_push (vI 2) 41), (41, o_ild 5 43), (43, o_ib fAdd 44)]
abbrev tl_X2_lay_1 : List (Nat × oOp) := [(44, o_ald 1 45), (45, o_getR [4] 1 48), (48, o_ild 5 50), (50, o_xald 13 51), (51, o_push (vI 0) 52), (52, o_callo T_X7_edge 7 4 0 0 0 0 55), (55, o_inc 5 1 58), (58, o_go 26), (61, o_push (vI 0) 62), (62, o_ist 5 64), (64, o_ild 5 66), (66, o_ald 0 67), (67, o_getR [2] 2 70), (70, o_alen 71), (71, o_ic pGe 278 74), (74, o_ald 0 75), (75, o_getR [2] 2 78), (78, o_ild 5 80), (80, o_xald 13 81), (81, o_ald 1 82), (82, o_getI [4] 3 85), (85, o_ib fMul 86), (86, o_ist 6 88), (88, o_ild 6 90)]
abbrev tl_X2_lay_2 : List (Nat × oOp) := [(90, o_if zNe 96 93), (93, o_go 272), (96, o_ild 5 98), (98, o_push (vI 19) 100), (100, o_div 101), (101, o_ist 7 103), (103, o_ild 5 105), (105, o_push (vI 19) 107), (107, o_rem 108), (108, o_push (vI 9) 110), (110, o_ib fSub 111), (111, o_ist 8 113), (113, o_ald 0 114), (114, o_getR [2] 3 117), (117, o_callo T_X7_addNode 7 0 0 0 0 0 120), (120, o_ist 9 122), (122, o_ald 0 123), (123, o_getR [2] 3 126), (126, o_callo T_X7_addNode 7 0 0 0 0 0 129), (129, o_ist 10 131), (131, o_ald 0 132), (132, o_getR [2] 3 135), (135, o_ild 9 137), (137, o_ild 10 139)]
abbrev tl_X2_lay_3 : List (Nat × oOp) := [(139, o_ild 6 141), (141, o_push (vI 0) 142), (142, o_callo T_X7_edge 7 4 0 0 0 0 145), (145, o_ald 0 146), (146, o_getR [2] 3 149), (149, o_push (vI 2) 150), (150, o_ild 7 152), (152, o_ib fAdd 153), (153, o_ild 9 155), (155, o_ild 6 157), (157, o_push (vI 0) 158), (158, o_callo T_X7_edge 7 4 0 0 0 0 161), (161, o_ild 7 163), (163, o_if zLe 190 166), (166, o_ild 8 168), (168, o_ild 7 170), (170, o_ild 4 172), (172, o_ib fSub 173), (173, o_ic pLt 190 176), (176, o_ald 0 177), (177, o_getR [2] 3 180), (180, o_push (vI 2) 181), (181, o_ild 9 183), (183, o_ild 6 185)]
abbrev tl_X2_lay_4 : List (Nat × oOp) := [(185, o_ild 7 187), (187, o_callo T_X7_edge 7 4 0 0 0 0 190), (190, o_ild 8 192), (192, o_ald 1 193), (193, o_getI [4] 5 196), (196, o_ib fAdd 197), (197, o_ald 2 198), (198, o_getI [6] 0 201), (201, o_push (vI 1) 202), (202, o_ib fSub 203), (203, o_math2 fMin 0 0 206), (206, o_ist 11 208), (208, o_ild 8 210), (210, o_push (vI 0) 211), (211, o_math2 fMax 0 0 214), (214, o_ist 12 216), (216, o_ild 12 218), (218, o_ild 11 220), (220, o_ic pGt 272 223), (223, o_ald 0 224), (224, o_getR [2] 1 227), (227, o_ild 12 229), (229, o_xald 13 230), (230, o_ild 7 232)]
abbrev tl_X2_lay_5 : List (Nat × oOp) := [(232, o_ib fSub 233), (233, o_math1 fAbs 0 0 236), (236, o_ist 13 238), (238, o_ild 12 240), (240, o_ild 8 242), (242, o_ib fSub 243), (243, o_ild 13 245), (245, o_ic pLt 266 248), (248, o_ald 0 249), (249, o_getR [2] 3 252), (252, o_ild 10 254), (254, o_push (vI 10) 256), (256, o_ild 12 258), (258, o_ib fAdd 259), (259, o_ild 6 261), (261, o_ild 13 263), (263, o_callo T_X7_edge 7 4 0 0 0 0 266), (266, o_inc 12 1 269), (269, o_go 216), (272, o_inc 5 1 275), (275, o_go 64), (278, o_ret0 0 0)]
set_option maxRecDepth 20000 in
def tb_X2_lay : Nat → oOp := oTab [(0, o_ald 2 1), (1, o_ald 1 2), (2, o_getI [4] 0 5), (5, o_ild 3 6), (6, o_ald 0 7), (7, o_getR [2] 1 10), (10, o_callo T_X6_walk 6 3 0 0 0 0 13), (13, o_ald 0 14), (14, o_ald 1 15), (15, o_getI [4] 4 18), (18, o_ild 4 20), (20, o_callo T_X2_countBaking 2 2 0 0 0 0 23), (23, o_push (vI 0) 24), (24, o_ist 5 26), (26, o_ild 5 28), (28, o_ald 1 29), (29, o_getI [4] 0 32), (32, o_ic pGe 61 35), (35, o_ald 0 36), (36, o_getR [2] 3 39), (39, o_push (vI 0) 40), (40, o_push (vI 2) 41), (41, o_ild 5 43), (43, o_ib fAdd 44), (44, o_ald 1 45), (45, o_getR [4] 1 48), (48, o_ild 5 50), (50, o_xald 13 51), (51, o_push (vI 0) 52), (52, o_callo T_X7_edge 7 4 0 0 0 0 55), (55, o_inc 5 1 58), (58, o_go 26), (61, o_push (vI 0) 62), (62, o_ist 5 64), (64, o_ild 5 66), (66, o_ald 0 67), (67, o_getR [2] 2 70), (70, o_alen 71), (71, o_ic pGe 278 74), (74, o_ald 0 75), (75, o_getR [2] 2 78), (78, o_ild 5 80), (80, o_xald 13 81), (81, o_ald 1 82), (82, o_getI [4] 3 85), (85, o_ib fMul 86), (86, o_ist 6 88), (88, o_ild 6 90), (90, o_if zNe 96 93), (93, o_go 272), (96, o_ild 5 98), (98, o_push (vI 19) 100), (100, o_div 101), (101, o_ist 7 103), (103, o_ild 5 105), (105, o_push (vI 19) 107), (107, o_rem 108), (108, o_push (vI 9) 110), (110, o_ib fSub 111), (111, o_ist 8 113), (113, o_ald 0 114), (114, o_getR [2] 3 117), (117, o_callo T_X7_addNode 7 0 0 0 0 0 120), (120, o_ist 9 122), (122, o_ald 0 123), (123, o_getR [2] 3 126), (126, o_callo T_X7_addNode 7 0 0 0 0 0 129), (129, o_ist 10 131), (131, o_ald 0 132), (132, o_getR [2] 3 135), (135, o_ild 9 137), (137, o_ild 10 139), (139, o_ild 6 141), (141, o_push (vI 0) 142), (142, o_callo T_X7_edge 7 4 0 0 0 0 145), (145, o_ald 0 146), (146, o_getR [2] 3 149), (149, o_push (vI 2) 150), (150, o_ild 7 152), (152, o_ib fAdd 153), (153, o_ild 9 155), (155, o_ild 6 157), (157, o_push (vI 0) 158), (158, o_callo T_X7_edge 7 4 0 0 0 0 161), (161, o_ild 7 163), (163, o_if zLe 190 166), (166, o_ild 8 168), (168, o_ild 7 170), (170, o_ild 4 172), (172, o_ib fSub 173), (173, o_ic pLt 190 176), (176, o_ald 0 177), (177, o_getR [2] 3 180), (180, o_push (vI 2) 181), (181, o_ild 9 183), (183, o_ild 6 185), (185, o_ild 7 187), (187, o_callo T_X7_edge 7 4 0 0 0 0 190), (190, o_ild 8 192), (192, o_ald 1 193), (193, o_getI [4] 5 196), (196, o_ib fAdd 197), (197, o_ald 2 198), (198, o_getI [6] 0 201), (201, o_push (vI 1) 202), (202, o_ib fSub 203), (203, o_math2 fMin 0 0 206), (206, o_ist 11 208), (208, o_ild 8 210), (210, o_push (vI 0) 211), (211, o_math2 fMax 0 0 214), (214, o_ist 12 216), (216, o_ild 12 218), (218, o_ild 11 220), (220, o_ic pGt 272 223), (223, o_ald 0 224), (224, o_getR [2] 1 227), (227, o_ild 12 229), (229, o_xald 13 230), (230, o_ild 7 232), (232, o_ib fSub 233), (233, o_math1 fAbs 0 0 236), (236, o_ist 13 238), (238, o_ild 12 240), (240, o_ild 8 242), (242, o_ib fSub 243), (243, o_ild 13 245), (245, o_ic pLt 266 248), (248, o_ald 0 249), (249, o_getR [2] 3 252), (252, o_ild 10 254), (254, o_push (vI 10) 256), (256, o_ild 12 258), (258, o_ib fAdd 259), (259, o_ild 6 261), (261, o_ild 13 263), (263, o_callo T_X7_edge 7 4 0 0 0 0 266), (266, o_inc 12 1 269), (269, o_go 216), (272, o_inc 5 1 275), (275, o_go 64), (278, o_ret0 0 0)]
def T_X2_lay : List oA → oM → oQ → Prop := oT tb_X2_lay 14
set_option maxRecDepth 20000 in
theorem sn_X2_lay_0 {p : Program} {l : Launch} {e : Env} {s : State} {m : MethodId} {args : Array Value} {below : List Frame} {meth : Method} {c : Code} {D : va_G} {ids : Nat → ClassId} {b : Nat} {Q : oQ} (C : oCx p s m args c cX2_lay 14 (yX2_lay).cls D ids b) (hr : meth.sig.returnType = none) (hlk : meth.locks = false) (hnm : meth.name = (yX2_lay).name) : ∀ q ∈ tl_X2_lay_0, oSn (oW p l e (oRm 2 50 0 0) s m args below meth c 14 D ids b (oMQ D ids b below Q args s 0 0)) Q q.1 q.2 := List.forall_mem_cons.mpr ⟨so_aload_n C 2 rfl dX2_lay_0, List.forall_mem_cons.mpr ⟨so_aload_n C 1 rfl dX2_lay_1, List.forall_mem_cons.mpr ⟨so_getI C [4] 0 (fd_RX2_72_4 C) (by decide) dX2_lay_2, List.forall_mem_cons.mpr ⟨so_iload_n C 3 rfl dX2_lay_5, List.forall_mem_cons.mpr ⟨so_aload_n C 0 rfl dX2_lay_6, List.forall_mem_cons.mpr ⟨so_getR C [2] 1 (fd_RX2_18_2 C) (ft_2_1) dX2_lay_7, List.forall_mem_cons.mpr ⟨so_callV C (y := yX6_walk) 6 3 0 0 (RX6, TX6, 5) (by decide) rfl rfl ⟨Nat.le_refl _, Nat.le_refl _⟩ (c_X6_walk l D ids) kw_546 kw_595 kw_544 kw_545 kw_4 hy_X6_walk ⟨Nat.le_of_ble_eq_true rfl, Nat.le_of_ble_eq_true rfl⟩ dX2_lay_10, List.forall_mem_cons.mpr ⟨so_aload_n C 0 rfl dX2_lay_13, List.forall_mem_cons.mpr ⟨so_aload_n C 1 rfl dX2_lay_14, List.forall_mem_cons.mpr ⟨so_getI C [4] 4 (fd_RX2_81_4 C) (by decide) dX2_lay_15, List.forall_mem_cons.mpr ⟨so_iload C 4 dX2_lay_18, List.forall_mem_cons.mpr ⟨so_callV C (y := yX2_countBaking) 2 2 0 0 (RX2, TX2, 6) (by decide) rfl rfl ⟨Nat.le_refl _, Nat.le_refl _⟩ (c_X2_countBaking l D ids) kw_599 kw_596 kw_598 kp_14 kw_7 hy_X2_countBaking ⟨Nat.le_of_ble_eq_true rfl, Nat.le_of_ble_eq_true rfl⟩ dX2_lay_20, List.forall_mem_cons.mpr ⟨so_iconst C 0 rfl dX2_lay_23, List.forall_mem_cons.mpr ⟨so_istore C 5 (by decide) dX2_lay_24, List.forall_mem_cons.mpr ⟨so_iload C 5 dX2_lay_26, List.forall_mem_cons.mpr ⟨so_aload_n C 1 rfl dX2_lay_28, List.forall_mem_cons.mpr ⟨so_getI C [4] 0 (fd_RX2_72_4 C) (by decide) dX2_lay_29, List.forall_mem_cons.mpr ⟨so_ic_ge C (by decide) dX2_lay_32, List.forall_mem_cons.mpr ⟨so_aload_n C 0 rfl dX2_lay_35, List.forall_mem_cons.mpr ⟨so_getR C [2] 3 (fd_RX2_28_2 C) (ft_2_3) dX2_lay_36, List.forall_mem_cons.mpr ⟨so_iconst C 0 rfl dX2_lay_39, List.forall_mem_cons.mpr ⟨so_iconst C 2 rfl dX2_lay_40, List.forall_mem_cons.mpr ⟨so_iload C 5 dX2_lay_41, List.forall_mem_cons.mpr ⟨so_iadd C dX2_lay_43, fun _ h => absurd h List.not_mem_nil⟩⟩⟩⟩⟩⟩⟩⟩⟩⟩⟩⟩⟩⟩⟩⟩⟩⟩⟩⟩⟩⟩⟩⟩
set_option maxRecDepth 20000 in
theorem sn_X2_lay_1 {p : Program} {l : Launch} {e : Env} {s : State} {m : MethodId} {args : Array Value} {below : List Frame} {meth : Method} {c : Code} {D : va_G} {ids : Nat → ClassId} {b : Nat} {Q : oQ} (C : oCx p s m args c cX2_lay 14 (yX2_lay).cls D ids b) (hr : meth.sig.returnType = none) (hlk : meth.locks = false) (hnm : meth.name = (yX2_lay).name) : ∀ q ∈ tl_X2_lay_1, oSn (oW p l e (oRm 2 50 0 0) s m args below meth c 14 D ids b (oMQ D ids b below Q args s 0 0)) Q q.1 q.2 := List.forall_mem_cons.mpr ⟨so_aload_n C 1 rfl dX2_lay_44, List.forall_mem_cons.mpr ⟨so_getR C [4] 1 (fd_RX2_88_4 C) (ft_4_1) dX2_lay_45, List.forall_mem_cons.mpr ⟨so_iload C 5 dX2_lay_48, List.forall_mem_cons.mpr ⟨so_iald C dX2_lay_50, List.forall_mem_cons.mpr ⟨so_iconst C 0 rfl dX2_lay_51, List.forall_mem_cons.mpr ⟨so_callV C (y := yX7_edge) 7 4 0 0 (RX7, TX7, 14) (by decide) rfl rfl ⟨Nat.le_refl _, Nat.le_refl _⟩ (c_X7_edge l D ids) kw_606 kw_603 kw_604 kw_605 kw_9 hy_X7_edge ⟨Nat.le_of_ble_eq_true rfl, Nat.le_of_ble_eq_true rfl⟩ dX2_lay_52, List.forall_mem_cons.mpr ⟨so_iinc C 5 1 (by decide) dX2_lay_55, List.forall_mem_cons.mpr ⟨so_goto C (by decide) dX2_lay_58, List.forall_mem_cons.mpr ⟨so_iconst C 0 rfl dX2_lay_61, List.forall_mem_cons.mpr ⟨so_istore C 5 (by decide) dX2_lay_62, List.forall_mem_cons.mpr ⟨so_iload C 5 dX2_lay_64, List.forall_mem_cons.mpr ⟨so_aload_n C 0 rfl dX2_lay_66, List.forall_mem_cons.mpr ⟨so_getR C [2] 2 (fd_RX2_22_2 C) (ft_2_2) dX2_lay_67, List.forall_mem_cons.mpr ⟨so_alen C dX2_lay_70, List.forall_mem_cons.mpr ⟨so_ic_ge C (by decide) dX2_lay_71, List.forall_mem_cons.mpr ⟨so_aload_n C 0 rfl dX2_lay_74, List.forall_mem_cons.mpr ⟨so_getR C [2] 2 (fd_RX2_22_2 C) (ft_2_2) dX2_lay_75, List.forall_mem_cons.mpr ⟨so_iload C 5 dX2_lay_78, List.forall_mem_cons.mpr ⟨so_iald C dX2_lay_80, List.forall_mem_cons.mpr ⟨so_aload_n C 1 rfl dX2_lay_81, List.forall_mem_cons.mpr ⟨so_getI C [4] 3 (fd_RX2_91_4 C) (by decide) dX2_lay_82, List.forall_mem_cons.mpr ⟨so_imul C dX2_lay_85, List.forall_mem_cons.mpr ⟨so_istore C 6 (by decide) dX2_lay_86, List.forall_mem_cons.mpr ⟨so_iload C 6 dX2_lay_88, fun _ h => absurd h List.not_mem_nil⟩⟩⟩⟩⟩⟩⟩⟩⟩⟩⟩⟩⟩⟩⟩⟩⟩⟩⟩⟩⟩⟩⟩⟩
set_option maxRecDepth 20000 in
theorem sn_X2_lay_2 {p : Program} {l : Launch} {e : Env} {s : State} {m : MethodId} {args : Array Value} {below : List Frame} {meth : Method} {c : Code} {D : va_G} {ids : Nat → ClassId} {b : Nat} {Q : oQ} (C : oCx p s m args c cX2_lay 14 (yX2_lay).cls D ids b) (hr : meth.sig.returnType = none) (hlk : meth.locks = false) (hnm : meth.name = (yX2_lay).name) : ∀ q ∈ tl_X2_lay_2, oSn (oW p l e (oRm 2 50 0 0) s m args below meth c 14 D ids b (oMQ D ids b below Q args s 0 0)) Q q.1 q.2 := List.forall_mem_cons.mpr ⟨so_if_ne C (by decide) dX2_lay_90, List.forall_mem_cons.mpr ⟨so_goto C (by decide) dX2_lay_93, List.forall_mem_cons.mpr ⟨so_iload C 5 dX2_lay_96, List.forall_mem_cons.mpr ⟨so_bipush C 19 rfl dX2_lay_98, List.forall_mem_cons.mpr ⟨so_idiv C dX2_lay_100, List.forall_mem_cons.mpr ⟨so_istore C 7 (by decide) dX2_lay_101, List.forall_mem_cons.mpr ⟨so_iload C 5 dX2_lay_103, List.forall_mem_cons.mpr ⟨so_bipush C 19 rfl dX2_lay_105, List.forall_mem_cons.mpr ⟨so_irem C dX2_lay_107, List.forall_mem_cons.mpr ⟨so_bipush C 9 rfl dX2_lay_108, List.forall_mem_cons.mpr ⟨so_isub C dX2_lay_110, List.forall_mem_cons.mpr ⟨so_istore C 8 (by decide) dX2_lay_111, List.forall_mem_cons.mpr ⟨so_aload_n C 0 rfl dX2_lay_113, List.forall_mem_cons.mpr ⟨so_getR C [2] 3 (fd_RX2_28_2 C) (ft_2_3) dX2_lay_114, List.forall_mem_cons.mpr ⟨so_callV C (y := yX7_addNode) 7 0 0 0 (RX7, TX7, 14) (by decide) rfl rfl ⟨Nat.le_refl _, Nat.le_refl _⟩ (c_X7_addNode l D ids) kw_610 kw_607 kw_608 kw_609 kw_9 hy_X7_addNode ⟨Nat.le_of_ble_eq_true rfl, Nat.le_of_ble_eq_true rfl⟩ dX2_lay_117, List.forall_mem_cons.mpr ⟨so_istore C 9 (by decide) dX2_lay_120, List.forall_mem_cons.mpr ⟨so_aload_n C 0 rfl dX2_lay_122, List.forall_mem_cons.mpr ⟨so_getR C [2] 3 (fd_RX2_28_2 C) (ft_2_3) dX2_lay_123, List.forall_mem_cons.mpr ⟨so_callV C (y := yX7_addNode) 7 0 0 0 (RX7, TX7, 14) (by decide) rfl rfl ⟨Nat.le_refl _, Nat.le_refl _⟩ (c_X7_addNode l D ids) kw_610 kw_607 kw_608 kw_609 kw_9 hy_X7_addNode ⟨Nat.le_of_ble_eq_true rfl, Nat.le_of_ble_eq_true rfl⟩ dX2_lay_126, List.forall_mem_cons.mpr ⟨so_istore C 10 (by decide) dX2_lay_129, List.forall_mem_cons.mpr ⟨so_aload_n C 0 rfl dX2_lay_131, List.forall_mem_cons.mpr ⟨so_getR C [2] 3 (fd_RX2_28_2 C) (ft_2_3) dX2_lay_132, List.forall_mem_cons.mpr ⟨so_iload C 9 dX2_lay_135, List.forall_mem_cons.mpr ⟨so_iload C 10 dX2_lay_137, fun _ h => absurd h List.not_mem_nil⟩⟩⟩⟩⟩⟩⟩⟩⟩⟩⟩⟩⟩⟩⟩⟩⟩⟩⟩⟩⟩⟩⟩⟩
set_option maxRecDepth 20000 in
theorem sn_X2_lay_3 {p : Program} {l : Launch} {e : Env} {s : State} {m : MethodId} {args : Array Value} {below : List Frame} {meth : Method} {c : Code} {D : va_G} {ids : Nat → ClassId} {b : Nat} {Q : oQ} (C : oCx p s m args c cX2_lay 14 (yX2_lay).cls D ids b) (hr : meth.sig.returnType = none) (hlk : meth.locks = false) (hnm : meth.name = (yX2_lay).name) : ∀ q ∈ tl_X2_lay_3, oSn (oW p l e (oRm 2 50 0 0) s m args below meth c 14 D ids b (oMQ D ids b below Q args s 0 0)) Q q.1 q.2 := List.forall_mem_cons.mpr ⟨so_iload C 6 dX2_lay_139, List.forall_mem_cons.mpr ⟨so_iconst C 0 rfl dX2_lay_141, List.forall_mem_cons.mpr ⟨so_callV C (y := yX7_edge) 7 4 0 0 (RX7, TX7, 14) (by decide) rfl rfl ⟨Nat.le_refl _, Nat.le_refl _⟩ (c_X7_edge l D ids) kw_606 kw_603 kw_604 kw_605 kw_9 hy_X7_edge ⟨Nat.le_of_ble_eq_true rfl, Nat.le_of_ble_eq_true rfl⟩ dX2_lay_142, List.forall_mem_cons.mpr ⟨so_aload_n C 0 rfl dX2_lay_145, List.forall_mem_cons.mpr ⟨so_getR C [2] 3 (fd_RX2_28_2 C) (ft_2_3) dX2_lay_146, List.forall_mem_cons.mpr ⟨so_iconst C 2 rfl dX2_lay_149, List.forall_mem_cons.mpr ⟨so_iload C 7 dX2_lay_150, List.forall_mem_cons.mpr ⟨so_iadd C dX2_lay_152, List.forall_mem_cons.mpr ⟨so_iload C 9 dX2_lay_153, List.forall_mem_cons.mpr ⟨so_iload C 6 dX2_lay_155, List.forall_mem_cons.mpr ⟨so_iconst C 0 rfl dX2_lay_157, List.forall_mem_cons.mpr ⟨so_callV C (y := yX7_edge) 7 4 0 0 (RX7, TX7, 14) (by decide) rfl rfl ⟨Nat.le_refl _, Nat.le_refl _⟩ (c_X7_edge l D ids) kw_606 kw_603 kw_604 kw_605 kw_9 hy_X7_edge ⟨Nat.le_of_ble_eq_true rfl, Nat.le_of_ble_eq_true rfl⟩ dX2_lay_158, List.forall_mem_cons.mpr ⟨so_iload C 7 dX2_lay_161, List.forall_mem_cons.mpr ⟨so_if_le C (by decide) dX2_lay_163, List.forall_mem_cons.mpr ⟨so_iload C 8 dX2_lay_166, List.forall_mem_cons.mpr ⟨so_iload C 7 dX2_lay_168, List.forall_mem_cons.mpr ⟨so_iload C 4 dX2_lay_170, List.forall_mem_cons.mpr ⟨so_isub C dX2_lay_172, List.forall_mem_cons.mpr ⟨so_ic_lt C (by decide) dX2_lay_173, List.forall_mem_cons.mpr ⟨so_aload_n C 0 rfl dX2_lay_176, List.forall_mem_cons.mpr ⟨so_getR C [2] 3 (fd_RX2_28_2 C) (ft_2_3) dX2_lay_177, List.forall_mem_cons.mpr ⟨so_iconst C 2 rfl dX2_lay_180, List.forall_mem_cons.mpr ⟨so_iload C 9 dX2_lay_181, List.forall_mem_cons.mpr ⟨so_iload C 6 dX2_lay_183, fun _ h => absurd h List.not_mem_nil⟩⟩⟩⟩⟩⟩⟩⟩⟩⟩⟩⟩⟩⟩⟩⟩⟩⟩⟩⟩⟩⟩⟩⟩
set_option maxRecDepth 20000 in
theorem sn_X2_lay_4 {p : Program} {l : Launch} {e : Env} {s : State} {m : MethodId} {args : Array Value} {below : List Frame} {meth : Method} {c : Code} {D : va_G} {ids : Nat → ClassId} {b : Nat} {Q : oQ} (C : oCx p s m args c cX2_lay 14 (yX2_lay).cls D ids b) (hr : meth.sig.returnType = none) (hlk : meth.locks = false) (hnm : meth.name = (yX2_lay).name) : ∀ q ∈ tl_X2_lay_4, oSn (oW p l e (oRm 2 50 0 0) s m args below meth c 14 D ids b (oMQ D ids b below Q args s 0 0)) Q q.1 q.2 := List.forall_mem_cons.mpr ⟨so_iload C 7 dX2_lay_185, List.forall_mem_cons.mpr ⟨so_callV C (y := yX7_edge) 7 4 0 0 (RX7, TX7, 14) (by decide) rfl rfl ⟨Nat.le_refl _, Nat.le_refl _⟩ (c_X7_edge l D ids) kw_606 kw_603 kw_604 kw_605 kw_9 hy_X7_edge ⟨Nat.le_of_ble_eq_true rfl, Nat.le_of_ble_eq_true rfl⟩ dX2_lay_187, List.forall_mem_cons.mpr ⟨so_iload C 8 dX2_lay_190, List.forall_mem_cons.mpr ⟨so_aload_n C 1 rfl dX2_lay_192, List.forall_mem_cons.mpr ⟨so_getI C [4] 5 (fd_RX2_97_4 C) (by decide) dX2_lay_193, List.forall_mem_cons.mpr ⟨so_iadd C dX2_lay_196, List.forall_mem_cons.mpr ⟨so_aload_n C 2 rfl dX2_lay_197, List.forall_mem_cons.mpr ⟨so_getI C [6] 0 (fd_RX2_40_6 C) (by decide) dX2_lay_198, List.forall_mem_cons.mpr ⟨so_iconst C 1 rfl dX2_lay_201, List.forall_mem_cons.mpr ⟨so_isub C dX2_lay_202, List.forall_mem_cons.mpr ⟨so_min C 0 0 ⟨Nat.le_refl _, Nat.le_refl _⟩ kw_602 kw_417 kw_12 kw_418 (by decide) (by decide) dX2_lay_203, List.forall_mem_cons.mpr ⟨so_istore C 11 (by decide) dX2_lay_206, List.forall_mem_cons.mpr ⟨so_iload C 8 dX2_lay_208, List.forall_mem_cons.mpr ⟨so_iconst C 0 rfl dX2_lay_210, List.forall_mem_cons.mpr ⟨so_max C 0 0 ⟨Nat.le_refl _, Nat.le_refl _⟩ kw_601 kw_548 kw_12 kw_549 (by decide) (by decide) dX2_lay_211, List.forall_mem_cons.mpr ⟨so_istore C 12 (by decide) dX2_lay_214, List.forall_mem_cons.mpr ⟨so_iload C 12 dX2_lay_216, List.forall_mem_cons.mpr ⟨so_iload C 11 dX2_lay_218, List.forall_mem_cons.mpr ⟨so_ic_gt C (by decide) dX2_lay_220, List.forall_mem_cons.mpr ⟨so_aload_n C 0 rfl dX2_lay_223, List.forall_mem_cons.mpr ⟨so_getR C [2] 1 (fd_RX2_18_2 C) (ft_2_1) dX2_lay_224, List.forall_mem_cons.mpr ⟨so_iload C 12 dX2_lay_227, List.forall_mem_cons.mpr ⟨so_iald C dX2_lay_229, List.forall_mem_cons.mpr ⟨so_iload C 7 dX2_lay_230, fun _ h => absurd h List.not_mem_nil⟩⟩⟩⟩⟩⟩⟩⟩⟩⟩⟩⟩⟩⟩⟩⟩⟩⟩⟩⟩⟩⟩⟩⟩
set_option maxRecDepth 20000 in
theorem sn_X2_lay_5 {p : Program} {l : Launch} {e : Env} {s : State} {m : MethodId} {args : Array Value} {below : List Frame} {meth : Method} {c : Code} {D : va_G} {ids : Nat → ClassId} {b : Nat} {Q : oQ} (C : oCx p s m args c cX2_lay 14 (yX2_lay).cls D ids b) (hr : meth.sig.returnType = none) (hlk : meth.locks = false) (hnm : meth.name = (yX2_lay).name) : ∀ q ∈ tl_X2_lay_5, oSn (oW p l e (oRm 2 50 0 0) s m args below meth c 14 D ids b (oMQ D ids b below Q args s 0 0)) Q q.1 q.2 := List.forall_mem_cons.mpr ⟨so_isub C dX2_lay_232, List.forall_mem_cons.mpr ⟨so_abs C 0 0 ⟨Nat.le_refl _, Nat.le_refl _⟩ kw_611 kw_612 kw_12 kw_613 (by decide) (by decide) dX2_lay_233, List.forall_mem_cons.mpr ⟨so_istore C 13 (by decide) dX2_lay_236, List.forall_mem_cons.mpr ⟨so_iload C 12 dX2_lay_238, List.forall_mem_cons.mpr ⟨so_iload C 8 dX2_lay_240, List.forall_mem_cons.mpr ⟨so_isub C dX2_lay_242, List.forall_mem_cons.mpr ⟨so_iload C 13 dX2_lay_243, List.forall_mem_cons.mpr ⟨so_ic_lt C (by decide) dX2_lay_245, List.forall_mem_cons.mpr ⟨so_aload_n C 0 rfl dX2_lay_248, List.forall_mem_cons.mpr ⟨so_getR C [2] 3 (fd_RX2_28_2 C) (ft_2_3) dX2_lay_249, List.forall_mem_cons.mpr ⟨so_iload C 10 dX2_lay_252, List.forall_mem_cons.mpr ⟨so_bipush C 10 rfl dX2_lay_254, List.forall_mem_cons.mpr ⟨so_iload C 12 dX2_lay_256, List.forall_mem_cons.mpr ⟨so_iadd C dX2_lay_258, List.forall_mem_cons.mpr ⟨so_iload C 6 dX2_lay_259, List.forall_mem_cons.mpr ⟨so_iload C 13 dX2_lay_261, List.forall_mem_cons.mpr ⟨so_callV C (y := yX7_edge) 7 4 0 0 (RX7, TX7, 14) (by decide) rfl rfl ⟨Nat.le_refl _, Nat.le_refl _⟩ (c_X7_edge l D ids) kw_606 kw_603 kw_604 kw_605 kw_9 hy_X7_edge ⟨Nat.le_of_ble_eq_true rfl, Nat.le_of_ble_eq_true rfl⟩ dX2_lay_263, List.forall_mem_cons.mpr ⟨so_iinc C 12 1 (by decide) dX2_lay_266, List.forall_mem_cons.mpr ⟨so_goto C (by decide) dX2_lay_269, List.forall_mem_cons.mpr ⟨so_iinc C 5 1 (by decide) dX2_lay_272, List.forall_mem_cons.mpr ⟨so_goto C (by decide) dX2_lay_275, List.forall_mem_cons.mpr ⟨so_ret0 C 0 0 hr hlk dX2_lay_278, fun _ h => absurd h List.not_mem_nil⟩⟩⟩⟩⟩⟩⟩⟩⟩⟩⟩⟩⟩⟩⟩⟩⟩⟩⟩⟩⟩⟩
set_option maxRecDepth 20000 in
theorem c_X2_lay (l : Launch) (D : va_G) (ids : Nat → ClassId) : oMT l D ids yX2_lay cX2_lay 14 none 2 50 0 0 T_X2_lay := oMet l D ids tb_X2_lay (by decide) (fun p e s m args below meth c b Q C hr hlk hnm => oTab_all (tl_X2_lay_0 ++ (tl_X2_lay_1 ++ (tl_X2_lay_2 ++ (tl_X2_lay_3 ++ (tl_X2_lay_4 ++ (tl_X2_lay_5)))))) (List.forall_mem_append.mpr ⟨sn_X2_lay_0 C hr hlk hnm, List.forall_mem_append.mpr ⟨sn_X2_lay_1 C hr hlk hnm, List.forall_mem_append.mpr ⟨sn_X2_lay_2 C hr hlk hnm, List.forall_mem_append.mpr ⟨sn_X2_lay_3 C hr hlk hnm, List.forall_mem_append.mpr ⟨sn_X2_lay_4 C hr hlk hnm, sn_X2_lay_5 C hr hlk hnm⟩⟩⟩⟩⟩))
theorem dX7_measure_0 : decode cX7_measure 0 = .ok (.iconst 0, 1) := by decide +kernel
theorem dX7_measure_1 : decode cX7_measure 1 = .ok (.istore_n 1, 1) := by decide +kernel
theorem dX7_measure_2 : decode cX7_measure 2 = .ok (.iload_n 1, 1) := by decide +kernel
theorem dX7_measure_3 : decode cX7_measure 3 = .ok (.aload_n 0, 1) := by decide +kernel
theorem dX7_measure_4 : decode cX7_measure 4 = .ok (.getfield 48, 3) := by decide +kernel
theorem dX7_measure_7 : decode cX7_measure 7 = .ok (.if_icmp .ge 24, 3) := by decide +kernel
theorem dX7_measure_10 : decode cX7_measure 10 = .ok (.aload_n 0, 1) := by decide +kernel
theorem dX7_measure_11 : decode cX7_measure 11 = .ok (.getfield 29, 3) := by decide +kernel
theorem dX7_measure_14 : decode cX7_measure 14 = .ok (.iload_n 1, 1) := by decide +kernel
theorem dX7_measure_15 : decode cX7_measure 15 = .ok (.ldc 89, 2) := by decide +kernel
theorem dX7_measure_17 : decode cX7_measure 17 = .ok (.iastore, 1) := by decide +kernel
theorem dX7_measure_18 : decode cX7_measure 18 = .ok (.aload_n 0, 1) := by decide +kernel
theorem dX7_measure_19 : decode cX7_measure 19 = .ok (.getfield 38, 3) := by decide +kernel
theorem dX7_measure_22 : decode cX7_measure 22 = .ok (.iload_n 1, 1) := by decide +kernel
theorem dX7_measure_23 : decode cX7_measure 23 = .ok (.iconst 0, 1) := by decide +kernel
theorem dX7_measure_24 : decode cX7_measure 24 = .ok (.bastore, 1) := by decide +kernel
theorem dX7_measure_25 : decode cX7_measure 25 = .ok (.iinc 1 1, 3) := by decide +kernel
theorem dX7_measure_28 : decode cX7_measure 28 = .ok (.goto (-26), 3) := by decide +kernel
theorem dX7_measure_31 : decode cX7_measure 31 = .ok (.aload_n 0, 1) := by decide +kernel
theorem dX7_measure_32 : decode cX7_measure 32 = .ok (.getfield 29, 3) := by decide +kernel
theorem dX7_measure_35 : decode cX7_measure 35 = .ok (.iconst 0, 1) := by decide +kernel
theorem dX7_measure_36 : decode cX7_measure 36 = .ok (.iconst 0, 1) := by decide +kernel
theorem dX7_measure_37 : decode cX7_measure 37 = .ok (.iastore, 1) := by decide +kernel
theorem dX7_measure_38 : decode cX7_measure 38 = .ok (.aload_n 0, 1) := by decide +kernel
theorem dX7_measure_39 : decode cX7_measure 39 = .ok (.getfield 32, 3) := by decide +kernel
theorem dX7_measure_42 : decode cX7_measure 42 = .ok (.iconst 0, 1) := by decide +kernel
theorem dX7_measure_43 : decode cX7_measure 43 = .ok (.iconst 0, 1) := by decide +kernel
theorem dX7_measure_44 : decode cX7_measure 44 = .ok (.iastore, 1) := by decide +kernel
theorem dX7_measure_45 : decode cX7_measure 45 = .ok (.iconst 0, 1) := by decide +kernel
theorem dX7_measure_46 : decode cX7_measure 46 = .ok (.istore_n 1, 1) := by decide +kernel
theorem dX7_measure_47 : decode cX7_measure 47 = .ok (.iconst 1, 1) := by decide +kernel
theorem dX7_measure_48 : decode cX7_measure 48 = .ok (.istore_n 2, 1) := by decide +kernel
theorem dX7_measure_49 : decode cX7_measure 49 = .ok (.iconst 0, 1) := by decide +kernel
theorem dX7_measure_50 : decode cX7_measure 50 = .ok (.istore_n 3, 1) := by decide +kernel
theorem dX7_measure_51 : decode cX7_measure 51 = .ok (.iload_n 3, 1) := by decide +kernel
theorem dX7_measure_52 : decode cX7_measure 52 = .ok (.ldc 90, 2) := by decide +kernel
theorem dX7_measure_54 : decode cX7_measure 54 = .ok (.if_icmp .ge 207, 3) := by decide +kernel
theorem dX7_measure_57 : decode cX7_measure 57 = .ok (.iload_n 2, 1) := by decide +kernel
theorem dX7_measure_58 : decode cX7_measure 58 = .ok (.ifCond .le 203, 3) := by decide +kernel
theorem dX7_measure_61 : decode cX7_measure 61 = .ok (.aload_n 0, 1) := by decide +kernel
theorem dX7_measure_62 : decode cX7_measure 62 = .ok (.getfield 32, 3) := by decide +kernel
theorem dX7_measure_65 : decode cX7_measure 65 = .ok (.iload_n 1, 1) := by decide +kernel
theorem dX7_measure_66 : decode cX7_measure 66 = .ok (.iaload, 1) := by decide +kernel
theorem dX7_measure_67 : decode cX7_measure 67 = .ok (.istore 4, 2) := by decide +kernel
theorem dX7_measure_69 : decode cX7_measure 69 = .ok (.iload_n 1, 1) := by decide +kernel
theorem dX7_measure_70 : decode cX7_measure 70 = .ok (.iconst 1, 1) := by decide +kernel
theorem dX7_measure_71 : decode cX7_measure 71 = .ok (.iadd, 1) := by decide +kernel
theorem dX7_measure_72 : decode cX7_measure 72 = .ok (.sipush 324, 3) := by decide +kernel
theorem dX7_measure_75 : decode cX7_measure 75 = .ok (.if_icmp .ne 7, 3) := by decide +kernel
theorem dX7_measure_78 : decode cX7_measure 78 = .ok (.iconst 0, 1) := by decide +kernel
theorem dX7_measure_79 : decode cX7_measure 79 = .ok (.goto 6, 3) := by decide +kernel
theorem dX7_measure_82 : decode cX7_measure 82 = .ok (.iload_n 1, 1) := by decide +kernel
theorem dX7_measure_83 : decode cX7_measure 83 = .ok (.iconst 1, 1) := by decide +kernel
theorem dX7_measure_84 : decode cX7_measure 84 = .ok (.iadd, 1) := by decide +kernel
theorem dX7_measure_85 : decode cX7_measure 85 = .ok (.istore_n 1, 1) := by decide +kernel
theorem dX7_measure_86 : decode cX7_measure 86 = .ok (.iinc 2 (-1), 3) := by decide +kernel
theorem dX7_measure_89 : decode cX7_measure 89 = .ok (.aload_n 0, 1) := by decide +kernel
theorem dX7_measure_90 : decode cX7_measure 90 = .ok (.getfield 38, 3) := by decide +kernel
theorem dX7_measure_93 : decode cX7_measure 93 = .ok (.iload 4, 2) := by decide +kernel
theorem dX7_measure_95 : decode cX7_measure 95 = .ok (.iconst 0, 1) := by decide +kernel
theorem dX7_measure_96 : decode cX7_measure 96 = .ok (.bastore, 1) := by decide +kernel
theorem dX7_measure_97 : decode cX7_measure 97 = .ok (.aload_n 0, 1) := by decide +kernel
theorem dX7_measure_98 : decode cX7_measure 98 = .ok (.getfield 26, 3) := by decide +kernel
theorem dX7_measure_101 : decode cX7_measure 101 = .ok (.iload 4, 2) := by decide +kernel
theorem dX7_measure_103 : decode cX7_measure 103 = .ok (.iaload, 1) := by decide +kernel
theorem dX7_measure_104 : decode cX7_measure 104 = .ok (.istore 5, 2) := by decide +kernel
theorem dX7_measure_106 : decode cX7_measure 106 = .ok (.aload_n 0, 1) := by decide +kernel
theorem dX7_measure_107 : decode cX7_measure 107 = .ok (.getfield 56, 3) := by decide +kernel
theorem dX7_measure_110 : decode cX7_measure 110 = .ok (.istore 6, 2) := by decide +kernel
theorem dX7_measure_112 : decode cX7_measure 112 = .ok (.iload 5, 2) := by decide +kernel
theorem dX7_measure_114 : decode cX7_measure 114 = .ok (.ifCond .lt 141, 3) := by decide +kernel
theorem dX7_measure_117 : decode cX7_measure 117 = .ok (.iload 6, 2) := by decide +kernel
theorem dX7_measure_119 : decode cX7_measure 119 = .ok (.ifCond .le 136, 3) := by decide +kernel
theorem dX7_measure_122 : decode cX7_measure 122 = .ok (.aload_n 0, 1) := by decide +kernel
theorem dX7_measure_123 : decode cX7_measure 123 = .ok (.getfield 13, 3) := by decide +kernel
theorem dX7_measure_126 : decode cX7_measure 126 = .ok (.iload 5, 2) := by decide +kernel
theorem dX7_measure_128 : decode cX7_measure 128 = .ok (.iaload, 1) := by decide +kernel
theorem dX7_measure_129 : decode cX7_measure 129 = .ok (.istore 7, 2) := by decide +kernel
theorem dX7_measure_131 : decode cX7_measure 131 = .ok (.aload_n 0, 1) := by decide +kernel
theorem dX7_measure_132 : decode cX7_measure 132 = .ok (.getfield 17, 3) := by decide +kernel
theorem dX7_measure_135 : decode cX7_measure 135 = .ok (.iload 5, 2) := by decide +kernel
theorem dX7_measure_137 : decode cX7_measure 137 = .ok (.iaload, 1) := by decide +kernel
theorem dX7_measure_138 : decode cX7_measure 138 = .ok (.ifCond .le 102, 3) := by decide +kernel
theorem dX7_measure_141 : decode cX7_measure 141 = .ok (.aload_n 0, 1) := by decide +kernel
theorem dX7_measure_142 : decode cX7_measure 142 = .ok (.getfield 29, 3) := by decide +kernel
theorem dX7_measure_145 : decode cX7_measure 145 = .ok (.iload 4, 2) := by decide +kernel
theorem dX7_measure_147 : decode cX7_measure 147 = .ok (.iaload, 1) := by decide +kernel
theorem dX7_measure_148 : decode cX7_measure 148 = .ok (.aload_n 0, 1) := by decide +kernel
theorem dX7_measure_149 : decode cX7_measure 149 = .ok (.getfield 20, 3) := by decide +kernel
theorem dX7_measure_152 : decode cX7_measure 152 = .ok (.iload 5, 2) := by decide +kernel
theorem dX7_measure_154 : decode cX7_measure 154 = .ok (.iaload, 1) := by decide +kernel
theorem dX7_measure_155 : decode cX7_measure 155 = .ok (.iadd, 1) := by decide +kernel
theorem dX7_measure_156 : decode cX7_measure 156 = .ok (.aload_n 0, 1) := by decide +kernel
theorem dX7_measure_157 : decode cX7_measure 157 = .ok (.getfield 29, 3) := by decide +kernel
theorem dX7_measure_160 : decode cX7_measure 160 = .ok (.iload 7, 2) := by decide +kernel
theorem dX7_measure_162 : decode cX7_measure 162 = .ok (.iaload, 1) := by decide +kernel
theorem dX7_measure_163 : decode cX7_measure 163 = .ok (.if_icmp .ge 77, 3) := by decide +kernel
theorem dX7_measure_166 : decode cX7_measure 166 = .ok (.aload_n 0, 1) := by decide +kernel
theorem dX7_measure_167 : decode cX7_measure 167 = .ok (.getfield 29, 3) := by decide +kernel
theorem dX7_measure_170 : decode cX7_measure 170 = .ok (.iload 7, 2) := by decide +kernel
theorem dX7_measure_172 : decode cX7_measure 172 = .ok (.aload_n 0, 1) := by decide +kernel
theorem dX7_measure_173 : decode cX7_measure 173 = .ok (.getfield 29, 3) := by decide +kernel
theorem dX7_measure_176 : decode cX7_measure 176 = .ok (.iload 4, 2) := by decide +kernel
theorem dX7_measure_178 : decode cX7_measure 178 = .ok (.iaload, 1) := by decide +kernel
theorem dX7_measure_179 : decode cX7_measure 179 = .ok (.aload_n 0, 1) := by decide +kernel
theorem dX7_measure_180 : decode cX7_measure 180 = .ok (.getfield 20, 3) := by decide +kernel
theorem dX7_measure_183 : decode cX7_measure 183 = .ok (.iload 5, 2) := by decide +kernel
theorem dX7_measure_185 : decode cX7_measure 185 = .ok (.iaload, 1) := by decide +kernel
theorem dX7_measure_186 : decode cX7_measure 186 = .ok (.iadd, 1) := by decide +kernel
theorem dX7_measure_187 : decode cX7_measure 187 = .ok (.iastore, 1) := by decide +kernel
theorem dX7_measure_188 : decode cX7_measure 188 = .ok (.aload_n 0, 1) := by decide +kernel
theorem dX7_measure_189 : decode cX7_measure 189 = .ok (.getfield 38, 3) := by decide +kernel
theorem dX7_measure_192 : decode cX7_measure 192 = .ok (.iload 7, 2) := by decide +kernel
theorem dX7_measure_194 : decode cX7_measure 194 = .ok (.baload, 1) := by decide +kernel
theorem dX7_measure_195 : decode cX7_measure 195 = .ok (.ifCond .ne 45, 3) := by decide +kernel
theorem dX7_measure_198 : decode cX7_measure 198 = .ok (.aload_n 0, 1) := by decide +kernel
theorem dX7_measure_199 : decode cX7_measure 199 = .ok (.getfield 38, 3) := by decide +kernel
theorem dX7_measure_202 : decode cX7_measure 202 = .ok (.iload 7, 2) := by decide +kernel
theorem dX7_measure_204 : decode cX7_measure 204 = .ok (.iconst 1, 1) := by decide +kernel
theorem dX7_measure_205 : decode cX7_measure 205 = .ok (.bastore, 1) := by decide +kernel
theorem dX7_measure_206 : decode cX7_measure 206 = .ok (.iload_n 1, 1) := by decide +kernel
theorem dX7_measure_207 : decode cX7_measure 207 = .ok (.iload_n 2, 1) := by decide +kernel
theorem dX7_measure_208 : decode cX7_measure 208 = .ok (.iadd, 1) := by decide +kernel
theorem dX7_measure_209 : decode cX7_measure 209 = .ok (.istore 8, 2) := by decide +kernel
theorem dX7_measure_211 : decode cX7_measure 211 = .ok (.aload_n 0, 1) := by decide +kernel
theorem dX7_measure_212 : decode cX7_measure 212 = .ok (.getfield 32, 3) := by decide +kernel
theorem dX7_measure_215 : decode cX7_measure 215 = .ok (.iload 8, 2) := by decide +kernel
theorem dX7_measure_217 : decode cX7_measure 217 = .ok (.sipush 324, 3) := by decide +kernel
theorem dX7_measure_220 : decode cX7_measure 220 = .ok (.if_icmp .lt 12, 3) := by decide +kernel
theorem dX7_measure_223 : decode cX7_measure 223 = .ok (.iload 8, 2) := by decide +kernel
theorem dX7_measure_225 : decode cX7_measure 225 = .ok (.sipush 324, 3) := by decide +kernel
theorem dX7_measure_228 : decode cX7_measure 228 = .ok (.isub, 1) := by decide +kernel
theorem dX7_measure_229 : decode cX7_measure 229 = .ok (.goto 5, 3) := by decide +kernel
theorem dX7_measure_232 : decode cX7_measure 232 = .ok (.iload 8, 2) := by decide +kernel
theorem dX7_measure_234 : decode cX7_measure 234 = .ok (.iload 7, 2) := by decide +kernel
theorem dX7_measure_236 : decode cX7_measure 236 = .ok (.iastore, 1) := by decide +kernel
theorem dX7_measure_237 : decode cX7_measure 237 = .ok (.iinc 2 1, 3) := by decide +kernel
theorem dX7_measure_240 : decode cX7_measure 240 = .ok (.aload_n 0, 1) := by decide +kernel
theorem dX7_measure_241 : decode cX7_measure 241 = .ok (.getfield 23, 3) := by decide +kernel
theorem dX7_measure_244 : decode cX7_measure 244 = .ok (.iload 5, 2) := by decide +kernel
theorem dX7_measure_246 : decode cX7_measure 246 = .ok (.iaload, 1) := by decide +kernel
theorem dX7_measure_247 : decode cX7_measure 247 = .ok (.istore 5, 2) := by decide +kernel
theorem dX7_measure_249 : decode cX7_measure 249 = .ok (.iinc 6 (-1), 3) := by decide +kernel
theorem dX7_measure_252 : decode cX7_measure 252 = .ok (.goto (-140), 3) := by decide +kernel
theorem dX7_measure_255 : decode cX7_measure 255 = .ok (.iinc 3 1, 3) := by decide +kernel
theorem dX7_measure_258 : decode cX7_measure 258 = .ok (.goto (-207), 3) := by decide +kernel
theorem dX7_measure_261 : decode cX7_measure 261 = .ok (.aload_n 0, 1) := by decide +kernel
theorem dX7_measure_262 : decode cX7_measure 262 = .ok (.getfield 29, 3) := by decide +kernel
theorem dX7_measure_265 : decode cX7_measure 265 = .ok (.iconst 1, 1) := by decide +kernel
theorem dX7_measure_266 : decode cX7_measure 266 = .ok (.iaload, 1) := by decide +kernel
theorem dX7_measure_267 : decode cX7_measure 267 = .ok (.ldc 89, 2) := by decide +kernel
theorem dX7_measure_269 : decode cX7_measure 269 = .ok (.if_icmp .ge 7, 3) := by decide +kernel
theorem dX7_measure_272 : decode cX7_measure 272 = .ok (.iconst 1, 1) := by decide +kernel
theorem dX7_measure_273 : decode cX7_measure 273 = .ok (.goto 4, 3) := by decide +kernel
theorem dX7_measure_276 : decode cX7_measure 276 = .ok (.iconst 0, 1) := by decide +kernel
theorem dX7_measure_277 : decode cX7_measure 277 = .ok (.ireturn, 1) := by decide +kernel
abbrev tl_X7_measure_0 : List (Nat × oOp) := [(0, o_push (vI 0) 1), (1, o_ist 1 2), (2, o_ild 1 3), (3, o_ald 0 4), (4, o_getI [7] 9 7), (7, o_ic pGe 31 10), (10, o_ald 0 11), (11, o_getR [7] 5 14), (14, o_ild 1 15), (15, o_push (vI 268435456) 17), (17, o_iast 18), (18, o_ald 0 19), (19, o_getR [7] 8 22), (22, o_ild 1 23), (23, o_push (vI 0) 24), (24, o_zast 25), (25, o_inc 1 1 28), (28, o_go 2), (31, o_ald 0 32), (32, o_getR [7] 5 35), (35, o_push (vI 0) 36), (36, o_push (vI 0) 37), (37, o_iast 38), (38, o_ald 0 39)]
abbrev tl_X7_measure_1 : List (Nat × oOp) := [(39, o_getR [7] 6 42), (42, o_push (vI 0) 43), (43, o_push (vI 0) 44), (44, o_iast 45), (45, o_push (vI 0) 46), (46, o_ist 1 47), (47, o_push (vI 1) 48), (48, o_ist 2 49), (49, o_push (vI 0) 50), (50, o_ist 3 51), (51, o_ild 3 52), (52, o_push (vI 104976) 54), (54, o_ic pGe 261 57), (57, o_ild 2 58), (58, o_if zLe 261 61), (61, o_ald 0 62), (62, o_getR [7] 6 65), (65, o_ild 1 66), (66, o_xald 13 67), (67, o_ist 4 69), (69, o_ild 1 70), (70, o_push (vI 1) 71), (71, o_ib fAdd 72), (72, o_push (vI 324) 75)]
abbrev tl_X7_measure_2 : List (Nat × oOp) := [(75, o_ic pNe 82 78), (78, o_push (vI 0) 79), (79, o_go 85), (82, o_ild 1 83), (83, o_push (vI 1) 84), (84, o_ib fAdd 85), (85, o_ist 1 86), (86, o_inc 2 (-1) 89), (89, o_ald 0 90), (90, o_getR [7] 8 93), (93, o_ild 4 95), (95, o_push (vI 0) 96), (96, o_zast 97), (97, o_ald 0 98), (98, o_getR [7] 4 101), (101, o_ild 4 103), (103, o_xald 13 104), (104, o_ist 5 106), (106, o_ald 0 107), (107, o_getI [7] 10 110), (110, o_ist 6 112), (112, o_ild 5 114), (114, o_if zLt 255 117), (117, o_ild 6 119)]
abbrev tl_X7_measure_3 : List (Nat × oOp) := [(119, o_if zLe 255 122), (122, o_ald 0 123), (123, o_getR [7] 0 126), (126, o_ild 5 128), (128, o_xald 13 129), (129, o_ist 7 131), (131, o_ald 0 132), (132, o_getR [7] 1 135), (135, o_ild 5 137), (137, o_xald 13 138), (138, o_if zLe 240 141), (141, o_ald 0 142), (142, o_getR [7] 5 145), (145, o_ild 4 147), (147, o_xald 13 148), (148, o_ald 0 149), (149, o_getR [7] 2 152), (152, o_ild 5 154), (154, o_xald 13 155), (155, o_ib fAdd 156), (156, o_ald 0 157), (157, o_getR [7] 5 160), (160, o_ild 7 162), (162, o_xald 13 163)]
abbrev tl_X7_measure_4 : List (Nat × oOp) := [(163, o_ic pGe 240 166), (166, o_ald 0 167), (167, o_getR [7] 5 170), (170, o_ild 7 172), (172, o_ald 0 173), (173, o_getR [7] 5 176), (176, o_ild 4 178), (178, o_xald 13 179), (179, o_ald 0 180), (180, o_getR [7] 2 183), (183, o_ild 5 185), (185, o_xald 13 186), (186, o_ib fAdd 187), (187, o_iast 188), (188, o_ald 0 189), (189, o_getR [7] 8 192), (192, o_ild 7 194), (194, o_xald 15 195), (195, o_if zNe 240 198), (198, o_ald 0 199), (199, o_getR [7] 8 202), (202, o_ild 7 204), (204, o_push (vI 1) 205), (205, o_zast 206)]
abbrev tl_X7_measure_5 : List (Nat × oOp) := [(206, o_ild 1 207), (207, o_ild 2 208), (208, o_ib fAdd 209), (209, o_ist 8 211), (211, o_ald 0 212), (212, o_getR [7] 6 215), (215, o_ild 8 217), (217, o_push (vI 324) 220), (220, o_ic pLt 232 223), (223, o_ild 8 225), (225, o_push (vI 324) 228), (228, o_ib fSub 229), (229, o_go 234), (232, o_ild 8 234), (234, o_ild 7 236), (236, o_iast 237), (237, o_inc 2 1 240), (240, o_ald 0 241), (241, o_getR [7] 3 244), (244, o_ild 5 246), (246, o_xald 13 247), (247, o_ist 5 249), (249, o_inc 6 (-1) 252), (252, o_go 112)]
abbrev tl_X7_measure_6 : List (Nat × oOp) := [(255, o_inc 3 1 258), (258, o_go 51), (261, o_ald 0 262), (262, o_getR [7] 5 265), (265, o_push (vI 1) 266), (266, o_xald 13 267), (267, o_push (vI 268435456) 269), (269, o_ic pGe 276 272), (272, o_push (vI 1) 273), (273, o_go 277), (276, o_push (vI 0) 277), (277, o_retz 0 0)]
set_option maxRecDepth 20000 in
def tb_X7_measure : Nat → oOp := oTab [(0, o_push (vI 0) 1), (1, o_ist 1 2), (2, o_ild 1 3), (3, o_ald 0 4), (4, o_getI [7] 9 7), (7, o_ic pGe 31 10), (10, o_ald 0 11), (11, o_getR [7] 5 14), (14, o_ild 1 15), (15, o_push (vI 268435456) 17), (17, o_iast 18), (18, o_ald 0 19), (19, o_getR [7] 8 22), (22, o_ild 1 23), (23, o_push (vI 0) 24), (24, o_zast 25), (25, o_inc 1 1 28), (28, o_go 2), (31, o_ald 0 32), (32, o_getR [7] 5 35), (35, o_push (vI 0) 36), (36, o_push (vI 0) 37), (37, o_iast 38), (38, o_ald 0 39), (39, o_getR [7] 6 42), (42, o_push (vI 0) 43), (43, o_push (vI 0) 44), (44, o_iast 45), (45, o_push (vI 0) 46), (46, o_ist 1 47), (47, o_push (vI 1) 48), (48, o_ist 2 49), (49, o_push (vI 0) 50), (50, o_ist 3 51), (51, o_ild 3 52), (52, o_push (vI 104976) 54), (54, o_ic pGe 261 57), (57, o_ild 2 58), (58, o_if zLe 261 61), (61, o_ald 0 62), (62, o_getR [7] 6 65), (65, o_ild 1 66), (66, o_xald 13 67), (67, o_ist 4 69), (69, o_ild 1 70), (70, o_push (vI 1) 71), (71, o_ib fAdd 72), (72, o_push (vI 324) 75), (75, o_ic pNe 82 78), (78, o_push (vI 0) 79), (79, o_go 85), (82, o_ild 1 83), (83, o_push (vI 1) 84), (84, o_ib fAdd 85), (85, o_ist 1 86), (86, o_inc 2 (-1) 89), (89, o_ald 0 90), (90, o_getR [7] 8 93), (93, o_ild 4 95), (95, o_push (vI 0) 96), (96, o_zast 97), (97, o_ald 0 98), (98, o_getR [7] 4 101), (101, o_ild 4 103), (103, o_xald 13 104), (104, o_ist 5 106), (106, o_ald 0 107), (107, o_getI [7] 10 110), (110, o_ist 6 112), (112, o_ild 5 114), (114, o_if zLt 255 117), (117, o_ild 6 119), (119, o_if zLe 255 122), (122, o_ald 0 123), (123, o_getR [7] 0 126), (126, o_ild 5 128), (128, o_xald 13 129), (129, o_ist 7 131), (131, o_ald 0 132), (132, o_getR [7] 1 135), (135, o_ild 5 137), (137, o_xald 13 138), (138, o_if zLe 240 141), (141, o_ald 0 142), (142, o_getR [7] 5 145), (145, o_ild 4 147), (147, o_xald 13 148), (148, o_ald 0 149), (149, o_getR [7] 2 152), (152, o_ild 5 154), (154, o_xald 13 155), (155, o_ib fAdd 156), (156, o_ald 0 157), (157, o_getR [7] 5 160), (160, o_ild 7 162), (162, o_xald 13 163), (163, o_ic pGe 240 166), (166, o_ald 0 167), (167, o_getR [7] 5 170), (170, o_ild 7 172), (172, o_ald 0 173), (173, o_getR [7] 5 176), (176, o_ild 4 178), (178, o_xald 13 179), (179, o_ald 0 180), (180, o_getR [7] 2 183), (183, o_ild 5 185), (185, o_xald 13 186), (186, o_ib fAdd 187), (187, o_iast 188), (188, o_ald 0 189), (189, o_getR [7] 8 192), (192, o_ild 7 194), (194, o_xald 15 195), (195, o_if zNe 240 198), (198, o_ald 0 199), (199, o_getR [7] 8 202), (202, o_ild 7 204), (204, o_push (vI 1) 205), (205, o_zast 206), (206, o_ild 1 207), (207, o_ild 2 208), (208, o_ib fAdd 209), (209, o_ist 8 211), (211, o_ald 0 212), (212, o_getR [7] 6 215), (215, o_ild 8 217), (217, o_push (vI 324) 220), (220, o_ic pLt 232 223), (223, o_ild 8 225), (225, o_push (vI 324) 228), (228, o_ib fSub 229), (229, o_go 234), (232, o_ild 8 234), (234, o_ild 7 236), (236, o_iast 237), (237, o_inc 2 1 240), (240, o_ald 0 241), (241, o_getR [7] 3 244), (244, o_ild 5 246), (246, o_xald 13 247), (247, o_ist 5 249), (249, o_inc 6 (-1) 252), (252, o_go 112), (255, o_inc 3 1 258), (258, o_go 51), (261, o_ald 0 262), (262, o_getR [7] 5 265), (265, o_push (vI 1) 266), (266, o_xald 13 267), (267, o_push (vI 268435456) 269), (269, o_ic pGe 276 272), (272, o_push (vI 1) 273), (273, o_go 277), (276, o_push (vI 0) 277), (277, o_retz 0 0)]
def T_X7_measure : List oA → oM → oQ → Prop := oT tb_X7_measure 9
set_option maxRecDepth 20000 in
theorem sn_X7_measure_0 {p : Program} {l : Launch} {e : Env} {s : State} {m : MethodId} {args : Array Value} {below : List Frame} {meth : Method} {c : Code} {D : va_G} {ids : Nat → ClassId} {b : Nat} {Q : oQ} (C : oCx p s m args c cX7_measure 9 (yX7_measure).cls D ids b) (hr : meth.sig.returnType = (some .boolean)) (hlk : meth.locks = false) (hnm : meth.name = (yX7_measure).name) : ∀ q ∈ tl_X7_measure_0, oSn (oW p l e (oRm 0 0 0 0) s m args below meth c 9 D ids b (oMQ D ids b below Q args s 0 0)) Q q.1 q.2 := List.forall_mem_cons.mpr ⟨so_iconst C 0 rfl dX7_measure_0, List.forall_mem_cons.mpr ⟨so_istore_n C 1 rfl (by decide) dX7_measure_1, List.forall_mem_cons.mpr ⟨so_iload_n C 1 rfl dX7_measure_2, List.forall_mem_cons.mpr ⟨so_aload_n C 0 rfl dX7_measure_3, List.forall_mem_cons.mpr ⟨so_getI C [7] 9 (fd_RX7_48_7 C) (by decide) dX7_measure_4, List.forall_mem_cons.mpr ⟨so_ic_ge C (by decide) dX7_measure_7, List.forall_mem_cons.mpr ⟨so_aload_n C 0 rfl dX7_measure_10, List.forall_mem_cons.mpr ⟨so_getR C [7] 5 (fd_RX7_29_7 C) (ft_7_5) dX7_measure_11, List.forall_mem_cons.mpr ⟨so_iload_n C 1 rfl dX7_measure_14, List.forall_mem_cons.mpr ⟨so_ldc C 268435456 (by decide) kw_622 dX7_measure_15, List.forall_mem_cons.mpr ⟨so_iast C dX7_measure_17, List.forall_mem_cons.mpr ⟨so_aload_n C 0 rfl dX7_measure_18, List.forall_mem_cons.mpr ⟨so_getR C [7] 8 (fd_RX7_38_7 C) (ft_7_8) dX7_measure_19, List.forall_mem_cons.mpr ⟨so_iload_n C 1 rfl dX7_measure_22, List.forall_mem_cons.mpr ⟨so_iconst C 0 rfl dX7_measure_23, List.forall_mem_cons.mpr ⟨so_zast C dX7_measure_24, List.forall_mem_cons.mpr ⟨so_iinc C 1 1 (by decide) dX7_measure_25, List.forall_mem_cons.mpr ⟨so_goto C (by decide) dX7_measure_28, List.forall_mem_cons.mpr ⟨so_aload_n C 0 rfl dX7_measure_31, List.forall_mem_cons.mpr ⟨so_getR C [7] 5 (fd_RX7_29_7 C) (ft_7_5) dX7_measure_32, List.forall_mem_cons.mpr ⟨so_iconst C 0 rfl dX7_measure_35, List.forall_mem_cons.mpr ⟨so_iconst C 0 rfl dX7_measure_36, List.forall_mem_cons.mpr ⟨so_iast C dX7_measure_37, List.forall_mem_cons.mpr ⟨so_aload_n C 0 rfl dX7_measure_38, fun _ h => absurd h List.not_mem_nil⟩⟩⟩⟩⟩⟩⟩⟩⟩⟩⟩⟩⟩⟩⟩⟩⟩⟩⟩⟩⟩⟩⟩⟩
set_option maxRecDepth 20000 in
theorem sn_X7_measure_1 {p : Program} {l : Launch} {e : Env} {s : State} {m : MethodId} {args : Array Value} {below : List Frame} {meth : Method} {c : Code} {D : va_G} {ids : Nat → ClassId} {b : Nat} {Q : oQ} (C : oCx p s m args c cX7_measure 9 (yX7_measure).cls D ids b) (hr : meth.sig.returnType = (some .boolean)) (hlk : meth.locks = false) (hnm : meth.name = (yX7_measure).name) : ∀ q ∈ tl_X7_measure_1, oSn (oW p l e (oRm 0 0 0 0) s m args below meth c 9 D ids b (oMQ D ids b below Q args s 0 0)) Q q.1 q.2 := List.forall_mem_cons.mpr ⟨so_getR C [7] 6 (fd_RX7_32_7 C) (ft_7_6) dX7_measure_39, List.forall_mem_cons.mpr ⟨so_iconst C 0 rfl dX7_measure_42, List.forall_mem_cons.mpr ⟨so_iconst C 0 rfl dX7_measure_43, List.forall_mem_cons.mpr ⟨so_iast C dX7_measure_44, List.forall_mem_cons.mpr ⟨so_iconst C 0 rfl dX7_measure_45, List.forall_mem_cons.mpr ⟨so_istore_n C 1 rfl (by decide) dX7_measure_46, List.forall_mem_cons.mpr ⟨so_iconst C 1 rfl dX7_measure_47, List.forall_mem_cons.mpr ⟨so_istore_n C 2 rfl (by decide) dX7_measure_48, List.forall_mem_cons.mpr ⟨so_iconst C 0 rfl dX7_measure_49, List.forall_mem_cons.mpr ⟨so_istore_n C 3 rfl (by decide) dX7_measure_50, List.forall_mem_cons.mpr ⟨so_iload_n C 3 rfl dX7_measure_51, List.forall_mem_cons.mpr ⟨so_ldc C 104976 (by decide) kw_623 dX7_measure_52, List.forall_mem_cons.mpr ⟨so_ic_ge C (by decide) dX7_measure_54, List.forall_mem_cons.mpr ⟨so_iload_n C 2 rfl dX7_measure_57, List.forall_mem_cons.mpr ⟨so_if_le C (by decide) dX7_measure_58, List.forall_mem_cons.mpr ⟨so_aload_n C 0 rfl dX7_measure_61, List.forall_mem_cons.mpr ⟨so_getR C [7] 6 (fd_RX7_32_7 C) (ft_7_6) dX7_measure_62, List.forall_mem_cons.mpr ⟨so_iload_n C 1 rfl dX7_measure_65, List.forall_mem_cons.mpr ⟨so_iald C dX7_measure_66, List.forall_mem_cons.mpr ⟨so_istore C 4 (by decide) dX7_measure_67, List.forall_mem_cons.mpr ⟨so_iload_n C 1 rfl dX7_measure_69, List.forall_mem_cons.mpr ⟨so_iconst C 1 rfl dX7_measure_70, List.forall_mem_cons.mpr ⟨so_iadd C dX7_measure_71, List.forall_mem_cons.mpr ⟨so_sipush C 324 rfl dX7_measure_72, fun _ h => absurd h List.not_mem_nil⟩⟩⟩⟩⟩⟩⟩⟩⟩⟩⟩⟩⟩⟩⟩⟩⟩⟩⟩⟩⟩⟩⟩⟩
set_option maxRecDepth 20000 in
theorem sn_X7_measure_2 {p : Program} {l : Launch} {e : Env} {s : State} {m : MethodId} {args : Array Value} {below : List Frame} {meth : Method} {c : Code} {D : va_G} {ids : Nat → ClassId} {b : Nat} {Q : oQ} (C : oCx p s m args c cX7_measure 9 (yX7_measure).cls D ids b) (hr : meth.sig.returnType = (some .boolean)) (hlk : meth.locks = false) (hnm : meth.name = (yX7_measure).name) : ∀ q ∈ tl_X7_measure_2, oSn (oW p l e (oRm 0 0 0 0) s m args below meth c 9 D ids b (oMQ D ids b below Q args s 0 0)) Q q.1 q.2 := List.forall_mem_cons.mpr ⟨so_ic_ne C (by decide) dX7_measure_75, List.forall_mem_cons.mpr ⟨so_iconst C 0 rfl dX7_measure_78, List.forall_mem_cons.mpr ⟨so_goto C (by decide) dX7_measure_79, List.forall_mem_cons.mpr ⟨so_iload_n C 1 rfl dX7_measure_82, List.forall_mem_cons.mpr ⟨so_iconst C 1 rfl dX7_measure_83, List.forall_mem_cons.mpr ⟨so_iadd C dX7_measure_84, List.forall_mem_cons.mpr ⟨so_istore_n C 1 rfl (by decide) dX7_measure_85, List.forall_mem_cons.mpr ⟨so_iinc C 2 (-1) (by decide) dX7_measure_86, List.forall_mem_cons.mpr ⟨so_aload_n C 0 rfl dX7_measure_89, List.forall_mem_cons.mpr ⟨so_getR C [7] 8 (fd_RX7_38_7 C) (ft_7_8) dX7_measure_90, List.forall_mem_cons.mpr ⟨so_iload C 4 dX7_measure_93, List.forall_mem_cons.mpr ⟨so_iconst C 0 rfl dX7_measure_95, List.forall_mem_cons.mpr ⟨so_zast C dX7_measure_96, List.forall_mem_cons.mpr ⟨so_aload_n C 0 rfl dX7_measure_97, List.forall_mem_cons.mpr ⟨so_getR C [7] 4 (fd_RX7_26_7 C) (ft_7_4) dX7_measure_98, List.forall_mem_cons.mpr ⟨so_iload C 4 dX7_measure_101, List.forall_mem_cons.mpr ⟨so_iald C dX7_measure_103, List.forall_mem_cons.mpr ⟨so_istore C 5 (by decide) dX7_measure_104, List.forall_mem_cons.mpr ⟨so_aload_n C 0 rfl dX7_measure_106, List.forall_mem_cons.mpr ⟨so_getI C [7] 10 (fd_RX7_56_7 C) (by decide) dX7_measure_107, List.forall_mem_cons.mpr ⟨so_istore C 6 (by decide) dX7_measure_110, List.forall_mem_cons.mpr ⟨so_iload C 5 dX7_measure_112, List.forall_mem_cons.mpr ⟨so_if_lt C (by decide) dX7_measure_114, List.forall_mem_cons.mpr ⟨so_iload C 6 dX7_measure_117, fun _ h => absurd h List.not_mem_nil⟩⟩⟩⟩⟩⟩⟩⟩⟩⟩⟩⟩⟩⟩⟩⟩⟩⟩⟩⟩⟩⟩⟩⟩
set_option maxRecDepth 20000 in
theorem sn_X7_measure_3 {p : Program} {l : Launch} {e : Env} {s : State} {m : MethodId} {args : Array Value} {below : List Frame} {meth : Method} {c : Code} {D : va_G} {ids : Nat → ClassId} {b : Nat} {Q : oQ} (C : oCx p s m args c cX7_measure 9 (yX7_measure).cls D ids b) (hr : meth.sig.returnType = (some .boolean)) (hlk : meth.locks = false) (hnm : meth.name = (yX7_measure).name) : ∀ q ∈ tl_X7_measure_3, oSn (oW p l e (oRm 0 0 0 0) s m args below meth c 9 D ids b (oMQ D ids b below Q args s 0 0)) Q q.1 q.2 := List.forall_mem_cons.mpr ⟨so_if_le C (by decide) dX7_measure_119, List.forall_mem_cons.mpr ⟨so_aload_n C 0 rfl dX7_measure_122, List.forall_mem_cons.mpr ⟨so_getR C [7] 0 (fd_RX7_13_7 C) (ft_7_0) dX7_measure_123, List.forall_mem_cons.mpr ⟨so_iload C 5 dX7_measure_126, List.forall_mem_cons.mpr ⟨so_iald C dX7_measure_128, List.forall_mem_cons.mpr ⟨so_istore C 7 (by decide) dX7_measure_129, List.forall_mem_cons.mpr ⟨so_aload_n C 0 rfl dX7_measure_131, List.forall_mem_cons.mpr ⟨so_getR C [7] 1 (fd_RX7_17_7 C) (ft_7_1) dX7_measure_132, List.forall_mem_cons.mpr ⟨so_iload C 5 dX7_measure_135, List.forall_mem_cons.mpr ⟨so_iald C dX7_measure_137, List.forall_mem_cons.mpr ⟨so_if_le C (by decide) dX7_measure_138, List.forall_mem_cons.mpr ⟨so_aload_n C 0 rfl dX7_measure_141, List.forall_mem_cons.mpr ⟨so_getR C [7] 5 (fd_RX7_29_7 C) (ft_7_5) dX7_measure_142, List.forall_mem_cons.mpr ⟨so_iload C 4 dX7_measure_145, List.forall_mem_cons.mpr ⟨so_iald C dX7_measure_147, List.forall_mem_cons.mpr ⟨so_aload_n C 0 rfl dX7_measure_148, List.forall_mem_cons.mpr ⟨so_getR C [7] 2 (fd_RX7_20_7 C) (ft_7_2) dX7_measure_149, List.forall_mem_cons.mpr ⟨so_iload C 5 dX7_measure_152, List.forall_mem_cons.mpr ⟨so_iald C dX7_measure_154, List.forall_mem_cons.mpr ⟨so_iadd C dX7_measure_155, List.forall_mem_cons.mpr ⟨so_aload_n C 0 rfl dX7_measure_156, List.forall_mem_cons.mpr ⟨so_getR C [7] 5 (fd_RX7_29_7 C) (ft_7_5) dX7_measure_157, List.forall_mem_cons.mpr ⟨so_iload C 7 dX7_measure_160, List.forall_mem_cons.mpr ⟨so_iald C dX7_measure_162, fun _ h => absurd h List.not_mem_nil⟩⟩⟩⟩⟩⟩⟩⟩⟩⟩⟩⟩⟩⟩⟩⟩⟩⟩⟩⟩⟩⟩⟩⟩
set_option maxRecDepth 20000 in
theorem sn_X7_measure_4 {p : Program} {l : Launch} {e : Env} {s : State} {m : MethodId} {args : Array Value} {below : List Frame} {meth : Method} {c : Code} {D : va_G} {ids : Nat → ClassId} {b : Nat} {Q : oQ} (C : oCx p s m args c cX7_measure 9 (yX7_measure).cls D ids b) (hr : meth.sig.returnType = (some .boolean)) (hlk : meth.locks = false) (hnm : meth.name = (yX7_measure).name) : ∀ q ∈ tl_X7_measure_4, oSn (oW p l e (oRm 0 0 0 0) s m args below meth c 9 D ids b (oMQ D ids b below Q args s 0 0)) Q q.1 q.2 := List.forall_mem_cons.mpr ⟨so_ic_ge C (by decide) dX7_measure_163, List.forall_mem_cons.mpr ⟨so_aload_n C 0 rfl dX7_measure_166, List.forall_mem_cons.mpr ⟨so_getR C [7] 5 (fd_RX7_29_7 C) (ft_7_5) dX7_measure_167, List.forall_mem_cons.mpr ⟨so_iload C 7 dX7_measure_170, List.forall_mem_cons.mpr ⟨so_aload_n C 0 rfl dX7_measure_172, List.forall_mem_cons.mpr ⟨so_getR C [7] 5 (fd_RX7_29_7 C) (ft_7_5) dX7_measure_173, List.forall_mem_cons.mpr ⟨so_iload C 4 dX7_measure_176, List.forall_mem_cons.mpr ⟨so_iald C dX7_measure_178, List.forall_mem_cons.mpr ⟨so_aload_n C 0 rfl dX7_measure_179, List.forall_mem_cons.mpr ⟨so_getR C [7] 2 (fd_RX7_20_7 C) (ft_7_2) dX7_measure_180, List.forall_mem_cons.mpr ⟨so_iload C 5 dX7_measure_183, List.forall_mem_cons.mpr ⟨so_iald C dX7_measure_185, List.forall_mem_cons.mpr ⟨so_iadd C dX7_measure_186, List.forall_mem_cons.mpr ⟨so_iast C dX7_measure_187, List.forall_mem_cons.mpr ⟨so_aload_n C 0 rfl dX7_measure_188, List.forall_mem_cons.mpr ⟨so_getR C [7] 8 (fd_RX7_38_7 C) (ft_7_8) dX7_measure_189, List.forall_mem_cons.mpr ⟨so_iload C 7 dX7_measure_192, List.forall_mem_cons.mpr ⟨so_zald C dX7_measure_194, List.forall_mem_cons.mpr ⟨so_if_ne C (by decide) dX7_measure_195, List.forall_mem_cons.mpr ⟨so_aload_n C 0 rfl dX7_measure_198, List.forall_mem_cons.mpr ⟨so_getR C [7] 8 (fd_RX7_38_7 C) (ft_7_8) dX7_measure_199, List.forall_mem_cons.mpr ⟨so_iload C 7 dX7_measure_202, List.forall_mem_cons.mpr ⟨so_iconst C 1 rfl dX7_measure_204, List.forall_mem_cons.mpr ⟨so_zast C dX7_measure_205, fun _ h => absurd h List.not_mem_nil⟩⟩⟩⟩⟩⟩⟩⟩⟩⟩⟩⟩⟩⟩⟩⟩⟩⟩⟩⟩⟩⟩⟩⟩
set_option maxRecDepth 20000 in
theorem sn_X7_measure_5 {p : Program} {l : Launch} {e : Env} {s : State} {m : MethodId} {args : Array Value} {below : List Frame} {meth : Method} {c : Code} {D : va_G} {ids : Nat → ClassId} {b : Nat} {Q : oQ} (C : oCx p s m args c cX7_measure 9 (yX7_measure).cls D ids b) (hr : meth.sig.returnType = (some .boolean)) (hlk : meth.locks = false) (hnm : meth.name = (yX7_measure).name) : ∀ q ∈ tl_X7_measure_5, oSn (oW p l e (oRm 0 0 0 0) s m args below meth c 9 D ids b (oMQ D ids b below Q args s 0 0)) Q q.1 q.2 := List.forall_mem_cons.mpr ⟨so_iload_n C 1 rfl dX7_measure_206, List.forall_mem_cons.mpr ⟨so_iload_n C 2 rfl dX7_measure_207, List.forall_mem_cons.mpr ⟨so_iadd C dX7_measure_208, List.forall_mem_cons.mpr ⟨so_istore C 8 (by decide) dX7_measure_209, List.forall_mem_cons.mpr ⟨so_aload_n C 0 rfl dX7_measure_211, List.forall_mem_cons.mpr ⟨so_getR C [7] 6 (fd_RX7_32_7 C) (ft_7_6) dX7_measure_212, List.forall_mem_cons.mpr ⟨so_iload C 8 dX7_measure_215, List.forall_mem_cons.mpr ⟨so_sipush C 324 rfl dX7_measure_217, List.forall_mem_cons.mpr ⟨so_ic_lt C (by decide) dX7_measure_220, List.forall_mem_cons.mpr ⟨so_iload C 8 dX7_measure_223, List.forall_mem_cons.mpr ⟨so_sipush C 324 rfl dX7_measure_225, List.forall_mem_cons.mpr ⟨so_isub C dX7_measure_228, List.forall_mem_cons.mpr ⟨so_goto C (by decide) dX7_measure_229, List.forall_mem_cons.mpr ⟨so_iload C 8 dX7_measure_232, List.forall_mem_cons.mpr ⟨so_iload C 7 dX7_measure_234, List.forall_mem_cons.mpr ⟨so_iast C dX7_measure_236, List.forall_mem_cons.mpr ⟨so_iinc C 2 1 (by decide) dX7_measure_237, List.forall_mem_cons.mpr ⟨so_aload_n C 0 rfl dX7_measure_240, List.forall_mem_cons.mpr ⟨so_getR C [7] 3 (fd_RX7_23_7 C) (ft_7_3) dX7_measure_241, List.forall_mem_cons.mpr ⟨so_iload C 5 dX7_measure_244, List.forall_mem_cons.mpr ⟨so_iald C dX7_measure_246, List.forall_mem_cons.mpr ⟨so_istore C 5 (by decide) dX7_measure_247, List.forall_mem_cons.mpr ⟨so_iinc C 6 (-1) (by decide) dX7_measure_249, List.forall_mem_cons.mpr ⟨so_goto C (by decide) dX7_measure_252, fun _ h => absurd h List.not_mem_nil⟩⟩⟩⟩⟩⟩⟩⟩⟩⟩⟩⟩⟩⟩⟩⟩⟩⟩⟩⟩⟩⟩⟩⟩
set_option maxRecDepth 20000 in
theorem sn_X7_measure_6 {p : Program} {l : Launch} {e : Env} {s : State} {m : MethodId} {args : Array Value} {below : List Frame} {meth : Method} {c : Code} {D : va_G} {ids : Nat → ClassId} {b : Nat} {Q : oQ} (C : oCx p s m args c cX7_measure 9 (yX7_measure).cls D ids b) (hr : meth.sig.returnType = (some .boolean)) (hlk : meth.locks = false) (hnm : meth.name = (yX7_measure).name) : ∀ q ∈ tl_X7_measure_6, oSn (oW p l e (oRm 0 0 0 0) s m args below meth c 9 D ids b (oMQ D ids b below Q args s 0 0)) Q q.1 q.2 := List.forall_mem_cons.mpr ⟨so_iinc C 3 1 (by decide) dX7_measure_255, List.forall_mem_cons.mpr ⟨so_goto C (by decide) dX7_measure_258, List.forall_mem_cons.mpr ⟨so_aload_n C 0 rfl dX7_measure_261, List.forall_mem_cons.mpr ⟨so_getR C [7] 5 (fd_RX7_29_7 C) (ft_7_5) dX7_measure_262, List.forall_mem_cons.mpr ⟨so_iconst C 1 rfl dX7_measure_265, List.forall_mem_cons.mpr ⟨so_iald C dX7_measure_266, List.forall_mem_cons.mpr ⟨so_ldc C 268435456 (by decide) kw_622 dX7_measure_267, List.forall_mem_cons.mpr ⟨so_ic_ge C (by decide) dX7_measure_269, List.forall_mem_cons.mpr ⟨so_iconst C 1 rfl dX7_measure_272, List.forall_mem_cons.mpr ⟨so_goto C (by decide) dX7_measure_273, List.forall_mem_cons.mpr ⟨so_iconst C 0 rfl dX7_measure_276, List.forall_mem_cons.mpr ⟨so_retz C 0 0 hr hlk dX7_measure_277, fun _ h => absurd h List.not_mem_nil⟩⟩⟩⟩⟩⟩⟩⟩⟩⟩⟩⟩
set_option maxRecDepth 20000 in
theorem c_X7_measure (l : Launch) (D : va_G) (ids : Nat → ClassId) : oMT l D ids yX7_measure cX7_measure 9 (some .boolean) 0 0 0 0 T_X7_measure := oMet l D ids tb_X7_measure (by decide) (fun p e s m args below meth c b Q C hr hlk hnm => oTab_all (tl_X7_measure_0 ++ (tl_X7_measure_1 ++ (tl_X7_measure_2 ++ (tl_X7_measure_3 ++ (tl_X7_measure_4 ++ (tl_X7_measure_5 ++ (tl_X7_measure_6))))))) (List.forall_mem_append.mpr ⟨sn_X7_measure_0 C hr hlk hnm, List.forall_mem_append.mpr ⟨sn_X7_measure_1 C hr hlk hnm, List.forall_mem_append.mpr ⟨sn_X7_measure_2 C hr hlk hnm, List.forall_mem_append.mpr ⟨sn_X7_measure_3 C hr hlk hnm, List.forall_mem_append.mpr ⟨sn_X7_measure_4 C hr hlk hnm, List.forall_mem_append.mpr ⟨sn_X7_measure_5 C hr hlk hnm, sn_X7_measure_6 C hr hlk hnm⟩⟩⟩⟩⟩⟩))
theorem dX7_thread_0 : decode cX7_thread 0 = .ok (.iconst 0, 1) := by decide +kernel
theorem dX7_thread_1 : decode cX7_thread 1 = .ok (.istore_n 1, 1) := by decide +kernel
theorem dX7_thread_2 : decode cX7_thread 2 = .ok (.iconst 0, 1) := by decide +kernel
theorem dX7_thread_3 : decode cX7_thread 3 = .ok (.istore_n 2, 1) := by decide +kernel
theorem dX7_thread_4 : decode cX7_thread 4 = .ok (.iconst 0, 1) := by decide +kernel
theorem dX7_thread_5 : decode cX7_thread 5 = .ok (.istore_n 3, 1) := by decide +kernel
theorem dX7_thread_6 : decode cX7_thread 6 = .ok (.iload_n 3, 1) := by decide +kernel
theorem dX7_thread_7 : decode cX7_thread 7 = .ok (.sipush 648, 3) := by decide +kernel
theorem dX7_thread_10 : decode cX7_thread 10 = .ok (.if_icmp .ge 178, 3) := by decide +kernel
theorem dX7_thread_13 : decode cX7_thread 13 = .ok (.iload_n 1, 1) := by decide +kernel
theorem dX7_thread_14 : decode cX7_thread 14 = .ok (.iconst 1, 1) := by decide +kernel
theorem dX7_thread_15 : decode cX7_thread 15 = .ok (.if_icmp .eq 173, 3) := by decide +kernel
theorem dX7_thread_18 : decode cX7_thread 18 = .ok (.aload_n 0, 1) := by decide +kernel
theorem dX7_thread_19 : decode cX7_thread 19 = .ok (.getfield 38, 3) := by decide +kernel
theorem dX7_thread_22 : decode cX7_thread 22 = .ok (.iload_n 1, 1) := by decide +kernel
theorem dX7_thread_23 : decode cX7_thread 23 = .ok (.iconst 1, 1) := by decide +kernel
theorem dX7_thread_24 : decode cX7_thread 24 = .ok (.bastore, 1) := by decide +kernel
theorem dX7_thread_25 : decode cX7_thread 25 = .ok (.aload_n 0, 1) := by decide +kernel
theorem dX7_thread_26 : decode cX7_thread 26 = .ok (.getfield 35, 3) := by decide +kernel
theorem dX7_thread_29 : decode cX7_thread 29 = .ok (.iload_n 1, 1) := by decide +kernel
theorem dX7_thread_30 : decode cX7_thread 30 = .ok (.iaload, 1) := by decide +kernel
theorem dX7_thread_31 : decode cX7_thread 31 = .ok (.istore 4, 2) := by decide +kernel
theorem dX7_thread_33 : decode cX7_thread 33 = .ok (.aload_n 0, 1) := by decide +kernel
theorem dX7_thread_34 : decode cX7_thread 34 = .ok (.getfield 56, 3) := by decide +kernel
theorem dX7_thread_37 : decode cX7_thread 37 = .ok (.istore 5, 2) := by decide +kernel
theorem dX7_thread_39 : decode cX7_thread 39 = .ok (.iload 5, 2) := by decide +kernel
theorem dX7_thread_41 : decode cX7_thread 41 = .ok (.ifCond .le 80, 3) := by decide +kernel
theorem dX7_thread_44 : decode cX7_thread 44 = .ok (.iload 4, 2) := by decide +kernel
theorem dX7_thread_46 : decode cX7_thread 46 = .ok (.ifCond .lt 75, 3) := by decide +kernel
theorem dX7_thread_49 : decode cX7_thread 49 = .ok (.aload_n 0, 1) := by decide +kernel
theorem dX7_thread_50 : decode cX7_thread 50 = .ok (.getfield 17, 3) := by decide +kernel
theorem dX7_thread_53 : decode cX7_thread 53 = .ok (.iload 4, 2) := by decide +kernel
theorem dX7_thread_55 : decode cX7_thread 55 = .ok (.iaload, 1) := by decide +kernel
theorem dX7_thread_56 : decode cX7_thread 56 = .ok (.ifCond .le 50, 3) := by decide +kernel
theorem dX7_thread_59 : decode cX7_thread 59 = .ok (.aload_n 0, 1) := by decide +kernel
theorem dX7_thread_60 : decode cX7_thread 60 = .ok (.getfield 38, 3) := by decide +kernel
theorem dX7_thread_63 : decode cX7_thread 63 = .ok (.aload_n 0, 1) := by decide +kernel
theorem dX7_thread_64 : decode cX7_thread 64 = .ok (.getfield 13, 3) := by decide +kernel
theorem dX7_thread_67 : decode cX7_thread 67 = .ok (.iload 4, 2) := by decide +kernel
theorem dX7_thread_69 : decode cX7_thread 69 = .ok (.iaload, 1) := by decide +kernel
theorem dX7_thread_70 : decode cX7_thread 70 = .ok (.baload, 1) := by decide +kernel
theorem dX7_thread_71 : decode cX7_thread 71 = .ok (.ifCond .ne 35, 3) := by decide +kernel
theorem dX7_thread_74 : decode cX7_thread 74 = .ok (.aload_n 0, 1) := by decide +kernel
theorem dX7_thread_75 : decode cX7_thread 75 = .ok (.getfield 29, 3) := by decide +kernel
theorem dX7_thread_78 : decode cX7_thread 78 = .ok (.iload_n 1, 1) := by decide +kernel
theorem dX7_thread_79 : decode cX7_thread 79 = .ok (.iaload, 1) := by decide +kernel
theorem dX7_thread_80 : decode cX7_thread 80 = .ok (.aload_n 0, 1) := by decide +kernel
theorem dX7_thread_81 : decode cX7_thread 81 = .ok (.getfield 20, 3) := by decide +kernel
theorem dX7_thread_84 : decode cX7_thread 84 = .ok (.iload 4, 2) := by decide +kernel
theorem dX7_thread_86 : decode cX7_thread 86 = .ok (.iaload, 1) := by decide +kernel
theorem dX7_thread_87 : decode cX7_thread 87 = .ok (.iadd, 1) := by decide +kernel
theorem dX7_thread_88 : decode cX7_thread 88 = .ok (.aload_n 0, 1) := by decide +kernel
theorem dX7_thread_89 : decode cX7_thread 89 = .ok (.getfield 29, 3) := by decide +kernel
theorem dX7_thread_92 : decode cX7_thread 92 = .ok (.aload_n 0, 1) := by decide +kernel
theorem dX7_thread_93 : decode cX7_thread 93 = .ok (.getfield 13, 3) := by decide +kernel
theorem dX7_thread_96 : decode cX7_thread 96 = .ok (.iload 4, 2) := by decide +kernel
theorem dX7_thread_98 : decode cX7_thread 98 = .ok (.iaload, 1) := by decide +kernel
theorem dX7_thread_99 : decode cX7_thread 99 = .ok (.iaload, 1) := by decide +kernel
theorem dX7_thread_100 : decode cX7_thread 100 = .ok (.if_icmp .ne 6, 3) := by decide +kernel
theorem dX7_thread_103 : decode cX7_thread 103 = .ok (.goto 18, 3) := by decide +kernel
theorem dX7_thread_106 : decode cX7_thread 106 = .ok (.aload_n 0, 1) := by decide +kernel
theorem dX7_thread_107 : decode cX7_thread 107 = .ok (.getfield 23, 3) := by decide +kernel
theorem dX7_thread_110 : decode cX7_thread 110 = .ok (.iload 4, 2) := by decide +kernel
theorem dX7_thread_112 : decode cX7_thread 112 = .ok (.iaload, 1) := by decide +kernel
theorem dX7_thread_113 : decode cX7_thread 113 = .ok (.istore 4, 2) := by decide +kernel
theorem dX7_thread_115 : decode cX7_thread 115 = .ok (.iinc 5 (-1), 3) := by decide +kernel
theorem dX7_thread_118 : decode cX7_thread 118 = .ok (.goto (-79), 3) := by decide +kernel
theorem dX7_thread_121 : decode cX7_thread 121 = .ok (.aload_n 0, 1) := by decide +kernel
theorem dX7_thread_122 : decode cX7_thread 122 = .ok (.getfield 35, 3) := by decide +kernel
theorem dX7_thread_125 : decode cX7_thread 125 = .ok (.iload_n 1, 1) := by decide +kernel
theorem dX7_thread_126 : decode cX7_thread 126 = .ok (.iload 4, 2) := by decide +kernel
theorem dX7_thread_128 : decode cX7_thread 128 = .ok (.iastore, 1) := by decide +kernel
theorem dX7_thread_129 : decode cX7_thread 129 = .ok (.iload 4, 2) := by decide +kernel
theorem dX7_thread_131 : decode cX7_thread 131 = .ok (.ifCond .lt 25, 3) := by decide +kernel
theorem dX7_thread_134 : decode cX7_thread 134 = .ok (.aload_n 0, 1) := by decide +kernel
theorem dX7_thread_135 : decode cX7_thread 135 = .ok (.getfield 32, 3) := by decide +kernel
theorem dX7_thread_138 : decode cX7_thread 138 = .ok (.iload_n 2, 1) := by decide +kernel
theorem dX7_thread_139 : decode cX7_thread 139 = .ok (.iload 4, 2) := by decide +kernel
theorem dX7_thread_141 : decode cX7_thread 141 = .ok (.iastore, 1) := by decide +kernel
theorem dX7_thread_142 : decode cX7_thread 142 = .ok (.iinc 2 1, 3) := by decide +kernel
theorem dX7_thread_145 : decode cX7_thread 145 = .ok (.aload_n 0, 1) := by decide +kernel
theorem dX7_thread_146 : decode cX7_thread 146 = .ok (.getfield 13, 3) := by decide +kernel
theorem dX7_thread_149 : decode cX7_thread 149 = .ok (.iload 4, 2) := by decide +kernel
theorem dX7_thread_151 : decode cX7_thread 151 = .ok (.iaload, 1) := by decide +kernel
theorem dX7_thread_152 : decode cX7_thread 152 = .ok (.istore_n 1, 1) := by decide +kernel
theorem dX7_thread_153 : decode cX7_thread 153 = .ok (.goto 29, 3) := by decide +kernel
theorem dX7_thread_156 : decode cX7_thread 156 = .ok (.iload_n 2, 1) := by decide +kernel
theorem dX7_thread_157 : decode cX7_thread 157 = .ok (.ifCond .le 23, 3) := by decide +kernel
theorem dX7_thread_160 : decode cX7_thread 160 = .ok (.iinc 2 (-1), 3) := by decide +kernel
theorem dX7_thread_163 : decode cX7_thread 163 = .ok (.aload_n 0, 1) := by decide +kernel
theorem dX7_thread_164 : decode cX7_thread 164 = .ok (.getfield 13, 3) := by decide +kernel
theorem dX7_thread_167 : decode cX7_thread 167 = .ok (.aload_n 0, 1) := by decide +kernel
theorem dX7_thread_168 : decode cX7_thread 168 = .ok (.getfield 32, 3) := by decide +kernel
theorem dX7_thread_171 : decode cX7_thread 171 = .ok (.iload_n 2, 1) := by decide +kernel
theorem dX7_thread_172 : decode cX7_thread 172 = .ok (.iaload, 1) := by decide +kernel
theorem dX7_thread_173 : decode cX7_thread 173 = .ok (.iconst 1, 1) := by decide +kernel
theorem dX7_thread_174 : decode cX7_thread 174 = .ok (.ixor, 1) := by decide +kernel
theorem dX7_thread_175 : decode cX7_thread 175 = .ok (.iaload, 1) := by decide +kernel
theorem dX7_thread_176 : decode cX7_thread 176 = .ok (.istore_n 1, 1) := by decide +kernel
theorem dX7_thread_177 : decode cX7_thread 177 = .ok (.goto 5, 3) := by decide +kernel
theorem dX7_thread_180 : decode cX7_thread 180 = .ok (.iconst 0, 1) := by decide +kernel
theorem dX7_thread_181 : decode cX7_thread 181 = .ok (.ireturn, 1) := by decide +kernel
theorem dX7_thread_182 : decode cX7_thread 182 = .ok (.iinc 3 1, 3) := by decide +kernel
theorem dX7_thread_185 : decode cX7_thread 185 = .ok (.goto (-179), 3) := by decide +kernel
theorem dX7_thread_188 : decode cX7_thread 188 = .ok (.iload_n 1, 1) := by decide +kernel
theorem dX7_thread_189 : decode cX7_thread 189 = .ok (.iconst 1, 1) := by decide +kernel
theorem dX7_thread_190 : decode cX7_thread 190 = .ok (.if_icmp .ne 7, 3) := by decide +kernel
theorem dX7_thread_193 : decode cX7_thread 193 = .ok (.iload_n 2, 1) := by decide +kernel
theorem dX7_thread_194 : decode cX7_thread 194 = .ok (.goto 4, 3) := by decide +kernel
theorem dX7_thread_197 : decode cX7_thread 197 = .ok (.iconst 0, 1) := by decide +kernel
theorem dX7_thread_198 : decode cX7_thread 198 = .ok (.ireturn, 1) := by decide +kernel
abbrev tl_X7_thread_0 : List (Nat × oOp) := [(0, o_push (vI 0) 1), (1, o_ist 1 2), (2, o_push (vI 0) 3), (3, o_ist 2 4), (4, o_push (vI 0) 5), (5, o_ist 3 6), (6, o_ild 3 7), (7, o_push (vI 648) 10), (10, o_ic pGe 188 13), (13, o_ild 1 14), (14, o_push (vI 1) 15), (15, o_ic pEq 188 18), (18, o_ald 0 19), (19, o_getR [7] 8 22), (22, o_ild 1 23), (23, o_push (vI 1) 24), (24, o_zast 25), (25, o_ald 0 26), (26, o_getR [7] 7 29), (29, o_ild 1 30), (30, o_xald 13 31), (31, o_ist 4 33), (33, o_ald 0 34), (34, o_getI [7] 10 37)]
abbrev tl_X7_thread_1 : List (Nat × oOp) := [(37, o_ist 5 39), (39, o_ild 5 41), (41, o_if zLe 121 44), (44, o_ild 4 46), (46, o_if zLt 121 49), (49, o_ald 0 50), (50, o_getR [7] 1 53), (53, o_ild 4 55), (55, o_xald 13 56), (56, o_if zLe 106 59), (59, o_ald 0 60), (60, o_getR [7] 8 63), (63, o_ald 0 64), (64, o_getR [7] 0 67), (67, o_ild 4 69), (69, o_xald 13 70), (70, o_xald 15 71), (71, o_if zNe 106 74), (74, o_ald 0 75), (75, o_getR [7] 5 78), (78, o_ild 1 79), (79, o_xald 13 80), (80, o_ald 0 81), (81, o_getR [7] 2 84)]
abbrev tl_X7_thread_2 : List (Nat × oOp) := [(84, o_ild 4 86), (86, o_xald 13 87), (87, o_ib fAdd 88), (88, o_ald 0 89), (89, o_getR [7] 5 92), (92, o_ald 0 93), (93, o_getR [7] 0 96), (96, o_ild 4 98), (98, o_xald 13 99), (99, o_xald 13 100), (100, o_ic pNe 106 103), (103, o_go 121), (106, o_ald 0 107), (107, o_getR [7] 3 110), (110, o_ild 4 112), (112, o_xald 13 113), (113, o_ist 4 115), (115, o_inc 5 (-1) 118), (118, o_go 39), (121, o_ald 0 122), (122, o_getR [7] 7 125), (125, o_ild 1 126), (126, o_ild 4 128), (128, o_iast 129)]
abbrev tl_X7_thread_3 : List (Nat × oOp) := [(129, o_ild 4 131), (131, o_if zLt 156 134), (134, o_ald 0 135), (135, o_getR [7] 6 138), (138, o_ild 2 139), (139, o_ild 4 141), (141, o_iast 142), (142, o_inc 2 1 145), (145, o_ald 0 146), (146, o_getR [7] 0 149), (149, o_ild 4 151), (151, o_xald 13 152), (152, o_ist 1 153), (153, o_go 182), (156, o_ild 2 157), (157, o_if zLe 180 160), (160, o_inc 2 (-1) 163), (163, o_ald 0 164), (164, o_getR [7] 0 167), (167, o_ald 0 168), (168, o_getR [7] 6 171), (171, o_ild 2 172), (172, o_xald 13 173), (173, o_push (vI 1) 174)]
abbrev tl_X7_thread_4 : List (Nat × oOp) := [(174, o_ib fXor 175), (175, o_xald 13 176), (176, o_ist 1 177), (177, o_go 182), (180, o_push (vI 0) 181), (181, o_reti 0 0), (182, o_inc 3 1 185), (185, o_go 6), (188, o_ild 1 189), (189, o_push (vI 1) 190), (190, o_ic pNe 197 193), (193, o_ild 2 194), (194, o_go 198), (197, o_push (vI 0) 198), (198, o_reti 0 0)]
set_option maxRecDepth 20000 in
def tb_X7_thread : Nat → oOp := oTab [(0, o_push (vI 0) 1), (1, o_ist 1 2), (2, o_push (vI 0) 3), (3, o_ist 2 4), (4, o_push (vI 0) 5), (5, o_ist 3 6), (6, o_ild 3 7), (7, o_push (vI 648) 10), (10, o_ic pGe 188 13), (13, o_ild 1 14), (14, o_push (vI 1) 15), (15, o_ic pEq 188 18), (18, o_ald 0 19), (19, o_getR [7] 8 22), (22, o_ild 1 23), (23, o_push (vI 1) 24), (24, o_zast 25), (25, o_ald 0 26), (26, o_getR [7] 7 29), (29, o_ild 1 30), (30, o_xald 13 31), (31, o_ist 4 33), (33, o_ald 0 34), (34, o_getI [7] 10 37), (37, o_ist 5 39), (39, o_ild 5 41), (41, o_if zLe 121 44), (44, o_ild 4 46), (46, o_if zLt 121 49), (49, o_ald 0 50), (50, o_getR [7] 1 53), (53, o_ild 4 55), (55, o_xald 13 56), (56, o_if zLe 106 59), (59, o_ald 0 60), (60, o_getR [7] 8 63), (63, o_ald 0 64), (64, o_getR [7] 0 67), (67, o_ild 4 69), (69, o_xald 13 70), (70, o_xald 15 71), (71, o_if zNe 106 74), (74, o_ald 0 75), (75, o_getR [7] 5 78), (78, o_ild 1 79), (79, o_xald 13 80), (80, o_ald 0 81), (81, o_getR [7] 2 84), (84, o_ild 4 86), (86, o_xald 13 87), (87, o_ib fAdd 88), (88, o_ald 0 89), (89, o_getR [7] 5 92), (92, o_ald 0 93), (93, o_getR [7] 0 96), (96, o_ild 4 98), (98, o_xald 13 99), (99, o_xald 13 100), (100, o_ic pNe 106 103), (103, o_go 121), (106, o_ald 0 107), (107, o_getR [7] 3 110), (110, o_ild 4 112), (112, o_xald 13 113), (113, o_ist 4 115), (115, o_inc 5 (-1) 118), (118, o_go 39), (121, o_ald 0 122), (122, o_getR [7] 7 125), (125, o_ild 1 126), (126, o_ild 4 128), (128, o_iast 129), (129, o_ild 4 131), (131, o_if zLt 156 134), (134, o_ald 0 135), (135, o_getR [7] 6 138), (138, o_ild 2 139), (139, o_ild 4 141), (141, o_iast 142), (142, o_inc 2 1 145), (145, o_ald 0 146), (146, o_getR [7] 0 149), (149, o_ild 4 151), (151, o_xald 13 152), (152, o_ist 1 153), (153, o_go 182), (156, o_ild 2 157), (157, o_if zLe 180 160), (160, o_inc 2 (-1) 163), (163, o_ald 0 164), (164, o_getR [7] 0 167), (167, o_ald 0 168), (168, o_getR [7] 6 171), (171, o_ild 2 172), (172, o_xald 13 173), (173, o_push (vI 1) 174), (174, o_ib fXor 175), (175, o_xald 13 176), (176, o_ist 1 177), (177, o_go 182), (180, o_push (vI 0) 181), (181, o_reti 0 0), (182, o_inc 3 1 185), (185, o_go 6), (188, o_ild 1 189), (189, o_push (vI 1) 190), (190, o_ic pNe 197 193), (193, o_ild 2 194), (194, o_go 198), (197, o_push (vI 0) 198), (198, o_reti 0 0)]
def T_X7_thread : List oA → oM → oQ → Prop := oT tb_X7_thread 6
set_option maxRecDepth 20000 in
theorem sn_X7_thread_0 {p : Program} {l : Launch} {e : Env} {s : State} {m : MethodId} {args : Array Value} {below : List Frame} {meth : Method} {c : Code} {D : va_G} {ids : Nat → ClassId} {b : Nat} {Q : oQ} (C : oCx p s m args c cX7_thread 6 (yX7_thread).cls D ids b) (hr : meth.sig.returnType = (some .int)) (hlk : meth.locks = false) (hnm : meth.name = (yX7_thread).name) : ∀ q ∈ tl_X7_thread_0, oSn (oW p l e (oRm 0 0 0 0) s m args below meth c 6 D ids b (oMQ D ids b below Q args s 0 0)) Q q.1 q.2 := List.forall_mem_cons.mpr ⟨so_iconst C 0 rfl dX7_thread_0, List.forall_mem_cons.mpr ⟨so_istore_n C 1 rfl (by decide) dX7_thread_1, List.forall_mem_cons.mpr ⟨so_iconst C 0 rfl dX7_thread_2, List.forall_mem_cons.mpr ⟨so_istore_n C 2 rfl (by decide) dX7_thread_3, List.forall_mem_cons.mpr ⟨so_iconst C 0 rfl dX7_thread_4, List.forall_mem_cons.mpr ⟨so_istore_n C 3 rfl (by decide) dX7_thread_5, List.forall_mem_cons.mpr ⟨so_iload_n C 3 rfl dX7_thread_6, List.forall_mem_cons.mpr ⟨so_sipush C 648 rfl dX7_thread_7, List.forall_mem_cons.mpr ⟨so_ic_ge C (by decide) dX7_thread_10, List.forall_mem_cons.mpr ⟨so_iload_n C 1 rfl dX7_thread_13, List.forall_mem_cons.mpr ⟨so_iconst C 1 rfl dX7_thread_14, List.forall_mem_cons.mpr ⟨so_ic_eq C (by decide) dX7_thread_15, List.forall_mem_cons.mpr ⟨so_aload_n C 0 rfl dX7_thread_18, List.forall_mem_cons.mpr ⟨so_getR C [7] 8 (fd_RX7_38_7 C) (ft_7_8) dX7_thread_19, List.forall_mem_cons.mpr ⟨so_iload_n C 1 rfl dX7_thread_22, List.forall_mem_cons.mpr ⟨so_iconst C 1 rfl dX7_thread_23, List.forall_mem_cons.mpr ⟨so_zast C dX7_thread_24, List.forall_mem_cons.mpr ⟨so_aload_n C 0 rfl dX7_thread_25, List.forall_mem_cons.mpr ⟨so_getR C [7] 7 (fd_RX7_35_7 C) (ft_7_7) dX7_thread_26, List.forall_mem_cons.mpr ⟨so_iload_n C 1 rfl dX7_thread_29, List.forall_mem_cons.mpr ⟨so_iald C dX7_thread_30, List.forall_mem_cons.mpr ⟨so_istore C 4 (by decide) dX7_thread_31, List.forall_mem_cons.mpr ⟨so_aload_n C 0 rfl dX7_thread_33, List.forall_mem_cons.mpr ⟨so_getI C [7] 10 (fd_RX7_56_7 C) (by decide) dX7_thread_34, fun _ h => absurd h List.not_mem_nil⟩⟩⟩⟩⟩⟩⟩⟩⟩⟩⟩⟩⟩⟩⟩⟩⟩⟩⟩⟩⟩⟩⟩⟩
set_option maxRecDepth 20000 in
theorem sn_X7_thread_1 {p : Program} {l : Launch} {e : Env} {s : State} {m : MethodId} {args : Array Value} {below : List Frame} {meth : Method} {c : Code} {D : va_G} {ids : Nat → ClassId} {b : Nat} {Q : oQ} (C : oCx p s m args c cX7_thread 6 (yX7_thread).cls D ids b) (hr : meth.sig.returnType = (some .int)) (hlk : meth.locks = false) (hnm : meth.name = (yX7_thread).name) : ∀ q ∈ tl_X7_thread_1, oSn (oW p l e (oRm 0 0 0 0) s m args below meth c 6 D ids b (oMQ D ids b below Q args s 0 0)) Q q.1 q.2 := List.forall_mem_cons.mpr ⟨so_istore C 5 (by decide) dX7_thread_37, List.forall_mem_cons.mpr ⟨so_iload C 5 dX7_thread_39, List.forall_mem_cons.mpr ⟨so_if_le C (by decide) dX7_thread_41, List.forall_mem_cons.mpr ⟨so_iload C 4 dX7_thread_44, List.forall_mem_cons.mpr ⟨so_if_lt C (by decide) dX7_thread_46, List.forall_mem_cons.mpr ⟨so_aload_n C 0 rfl dX7_thread_49, List.forall_mem_cons.mpr ⟨so_getR C [7] 1 (fd_RX7_17_7 C) (ft_7_1) dX7_thread_50, List.forall_mem_cons.mpr ⟨so_iload C 4 dX7_thread_53, List.forall_mem_cons.mpr ⟨so_iald C dX7_thread_55, List.forall_mem_cons.mpr ⟨so_if_le C (by decide) dX7_thread_56, List.forall_mem_cons.mpr ⟨so_aload_n C 0 rfl dX7_thread_59, List.forall_mem_cons.mpr ⟨so_getR C [7] 8 (fd_RX7_38_7 C) (ft_7_8) dX7_thread_60, List.forall_mem_cons.mpr ⟨so_aload_n C 0 rfl dX7_thread_63, List.forall_mem_cons.mpr ⟨so_getR C [7] 0 (fd_RX7_13_7 C) (ft_7_0) dX7_thread_64, List.forall_mem_cons.mpr ⟨so_iload C 4 dX7_thread_67, List.forall_mem_cons.mpr ⟨so_iald C dX7_thread_69, List.forall_mem_cons.mpr ⟨so_zald C dX7_thread_70, List.forall_mem_cons.mpr ⟨so_if_ne C (by decide) dX7_thread_71, List.forall_mem_cons.mpr ⟨so_aload_n C 0 rfl dX7_thread_74, List.forall_mem_cons.mpr ⟨so_getR C [7] 5 (fd_RX7_29_7 C) (ft_7_5) dX7_thread_75, List.forall_mem_cons.mpr ⟨so_iload_n C 1 rfl dX7_thread_78, List.forall_mem_cons.mpr ⟨so_iald C dX7_thread_79, List.forall_mem_cons.mpr ⟨so_aload_n C 0 rfl dX7_thread_80, List.forall_mem_cons.mpr ⟨so_getR C [7] 2 (fd_RX7_20_7 C) (ft_7_2) dX7_thread_81, fun _ h => absurd h List.not_mem_nil⟩⟩⟩⟩⟩⟩⟩⟩⟩⟩⟩⟩⟩⟩⟩⟩⟩⟩⟩⟩⟩⟩⟩⟩
set_option maxRecDepth 20000 in
theorem sn_X7_thread_2 {p : Program} {l : Launch} {e : Env} {s : State} {m : MethodId} {args : Array Value} {below : List Frame} {meth : Method} {c : Code} {D : va_G} {ids : Nat → ClassId} {b : Nat} {Q : oQ} (C : oCx p s m args c cX7_thread 6 (yX7_thread).cls D ids b) (hr : meth.sig.returnType = (some .int)) (hlk : meth.locks = false) (hnm : meth.name = (yX7_thread).name) : ∀ q ∈ tl_X7_thread_2, oSn (oW p l e (oRm 0 0 0 0) s m args below meth c 6 D ids b (oMQ D ids b below Q args s 0 0)) Q q.1 q.2 := List.forall_mem_cons.mpr ⟨so_iload C 4 dX7_thread_84, List.forall_mem_cons.mpr ⟨so_iald C dX7_thread_86, List.forall_mem_cons.mpr ⟨so_iadd C dX7_thread_87, List.forall_mem_cons.mpr ⟨so_aload_n C 0 rfl dX7_thread_88, List.forall_mem_cons.mpr ⟨so_getR C [7] 5 (fd_RX7_29_7 C) (ft_7_5) dX7_thread_89, List.forall_mem_cons.mpr ⟨so_aload_n C 0 rfl dX7_thread_92, List.forall_mem_cons.mpr ⟨so_getR C [7] 0 (fd_RX7_13_7 C) (ft_7_0) dX7_thread_93, List.forall_mem_cons.mpr ⟨so_iload C 4 dX7_thread_96, List.forall_mem_cons.mpr ⟨so_iald C dX7_thread_98, List.forall_mem_cons.mpr ⟨so_iald C dX7_thread_99, List.forall_mem_cons.mpr ⟨so_ic_ne C (by decide) dX7_thread_100, List.forall_mem_cons.mpr ⟨so_goto C (by decide) dX7_thread_103, List.forall_mem_cons.mpr ⟨so_aload_n C 0 rfl dX7_thread_106, List.forall_mem_cons.mpr ⟨so_getR C [7] 3 (fd_RX7_23_7 C) (ft_7_3) dX7_thread_107, List.forall_mem_cons.mpr ⟨so_iload C 4 dX7_thread_110, List.forall_mem_cons.mpr ⟨so_iald C dX7_thread_112, List.forall_mem_cons.mpr ⟨so_istore C 4 (by decide) dX7_thread_113, List.forall_mem_cons.mpr ⟨so_iinc C 5 (-1) (by decide) dX7_thread_115, List.forall_mem_cons.mpr ⟨so_goto C (by decide) dX7_thread_118, List.forall_mem_cons.mpr ⟨so_aload_n C 0 rfl dX7_thread_121, List.forall_mem_cons.mpr ⟨so_getR C [7] 7 (fd_RX7_35_7 C) (ft_7_7) dX7_thread_122, List.forall_mem_cons.mpr ⟨so_iload_n C 1 rfl dX7_thread_125, List.forall_mem_cons.mpr ⟨so_iload C 4 dX7_thread_126, List.forall_mem_cons.mpr ⟨so_iast C dX7_thread_128, fun _ h => absurd h List.not_mem_nil⟩⟩⟩⟩⟩⟩⟩⟩⟩⟩⟩⟩⟩⟩⟩⟩⟩⟩⟩⟩⟩⟩⟩⟩
set_option maxRecDepth 20000 in
theorem sn_X7_thread_3 {p : Program} {l : Launch} {e : Env} {s : State} {m : MethodId} {args : Array Value} {below : List Frame} {meth : Method} {c : Code} {D : va_G} {ids : Nat → ClassId} {b : Nat} {Q : oQ} (C : oCx p s m args c cX7_thread 6 (yX7_thread).cls D ids b) (hr : meth.sig.returnType = (some .int)) (hlk : meth.locks = false) (hnm : meth.name = (yX7_thread).name) : ∀ q ∈ tl_X7_thread_3, oSn (oW p l e (oRm 0 0 0 0) s m args below meth c 6 D ids b (oMQ D ids b below Q args s 0 0)) Q q.1 q.2 := List.forall_mem_cons.mpr ⟨so_iload C 4 dX7_thread_129, List.forall_mem_cons.mpr ⟨so_if_lt C (by decide) dX7_thread_131, List.forall_mem_cons.mpr ⟨so_aload_n C 0 rfl dX7_thread_134, List.forall_mem_cons.mpr ⟨so_getR C [7] 6 (fd_RX7_32_7 C) (ft_7_6) dX7_thread_135, List.forall_mem_cons.mpr ⟨so_iload_n C 2 rfl dX7_thread_138, List.forall_mem_cons.mpr ⟨so_iload C 4 dX7_thread_139, List.forall_mem_cons.mpr ⟨so_iast C dX7_thread_141, List.forall_mem_cons.mpr ⟨so_iinc C 2 1 (by decide) dX7_thread_142, List.forall_mem_cons.mpr ⟨so_aload_n C 0 rfl dX7_thread_145, List.forall_mem_cons.mpr ⟨so_getR C [7] 0 (fd_RX7_13_7 C) (ft_7_0) dX7_thread_146, List.forall_mem_cons.mpr ⟨so_iload C 4 dX7_thread_149, List.forall_mem_cons.mpr ⟨so_iald C dX7_thread_151, List.forall_mem_cons.mpr ⟨so_istore_n C 1 rfl (by decide) dX7_thread_152, List.forall_mem_cons.mpr ⟨so_goto C (by decide) dX7_thread_153, List.forall_mem_cons.mpr ⟨so_iload_n C 2 rfl dX7_thread_156, List.forall_mem_cons.mpr ⟨so_if_le C (by decide) dX7_thread_157, List.forall_mem_cons.mpr ⟨so_iinc C 2 (-1) (by decide) dX7_thread_160, List.forall_mem_cons.mpr ⟨so_aload_n C 0 rfl dX7_thread_163, List.forall_mem_cons.mpr ⟨so_getR C [7] 0 (fd_RX7_13_7 C) (ft_7_0) dX7_thread_164, List.forall_mem_cons.mpr ⟨so_aload_n C 0 rfl dX7_thread_167, List.forall_mem_cons.mpr ⟨so_getR C [7] 6 (fd_RX7_32_7 C) (ft_7_6) dX7_thread_168, List.forall_mem_cons.mpr ⟨so_iload_n C 2 rfl dX7_thread_171, List.forall_mem_cons.mpr ⟨so_iald C dX7_thread_172, List.forall_mem_cons.mpr ⟨so_iconst C 1 rfl dX7_thread_173, fun _ h => absurd h List.not_mem_nil⟩⟩⟩⟩⟩⟩⟩⟩⟩⟩⟩⟩⟩⟩⟩⟩⟩⟩⟩⟩⟩⟩⟩⟩
set_option maxRecDepth 20000 in
theorem sn_X7_thread_4 {p : Program} {l : Launch} {e : Env} {s : State} {m : MethodId} {args : Array Value} {below : List Frame} {meth : Method} {c : Code} {D : va_G} {ids : Nat → ClassId} {b : Nat} {Q : oQ} (C : oCx p s m args c cX7_thread 6 (yX7_thread).cls D ids b) (hr : meth.sig.returnType = (some .int)) (hlk : meth.locks = false) (hnm : meth.name = (yX7_thread).name) : ∀ q ∈ tl_X7_thread_4, oSn (oW p l e (oRm 0 0 0 0) s m args below meth c 6 D ids b (oMQ D ids b below Q args s 0 0)) Q q.1 q.2 := List.forall_mem_cons.mpr ⟨so_ixor C dX7_thread_174, List.forall_mem_cons.mpr ⟨so_iald C dX7_thread_175, List.forall_mem_cons.mpr ⟨so_istore_n C 1 rfl (by decide) dX7_thread_176, List.forall_mem_cons.mpr ⟨so_goto C (by decide) dX7_thread_177, List.forall_mem_cons.mpr ⟨so_iconst C 0 rfl dX7_thread_180, List.forall_mem_cons.mpr ⟨so_reti C 0 0 hr hlk dX7_thread_181, List.forall_mem_cons.mpr ⟨so_iinc C 3 1 (by decide) dX7_thread_182, List.forall_mem_cons.mpr ⟨so_goto C (by decide) dX7_thread_185, List.forall_mem_cons.mpr ⟨so_iload_n C 1 rfl dX7_thread_188, List.forall_mem_cons.mpr ⟨so_iconst C 1 rfl dX7_thread_189, List.forall_mem_cons.mpr ⟨so_ic_ne C (by decide) dX7_thread_190, List.forall_mem_cons.mpr ⟨so_iload_n C 2 rfl dX7_thread_193, List.forall_mem_cons.mpr ⟨so_goto C (by decide) dX7_thread_194, List.forall_mem_cons.mpr ⟨so_iconst C 0 rfl dX7_thread_197, List.forall_mem_cons.mpr ⟨so_reti C 0 0 hr hlk dX7_thread_198, fun _ h => absurd h List.not_mem_nil⟩⟩⟩⟩⟩⟩⟩⟩⟩⟩⟩⟩⟩⟩⟩
set_option maxRecDepth 20000 in
theorem c_X7_thread (l : Launch) (D : va_G) (ids : Nat → ClassId) : oMT l D ids yX7_thread cX7_thread 6 (some .int) 0 0 0 0 T_X7_thread := oMet l D ids tb_X7_thread (by decide) (fun p e s m args below meth c b Q C hr hlk hnm => oTab_all (tl_X7_thread_0 ++ (tl_X7_thread_1 ++ (tl_X7_thread_2 ++ (tl_X7_thread_3 ++ (tl_X7_thread_4))))) (List.forall_mem_append.mpr ⟨sn_X7_thread_0 C hr hlk hnm, List.forall_mem_append.mpr ⟨sn_X7_thread_1 C hr hlk hnm, List.forall_mem_append.mpr ⟨sn_X7_thread_2 C hr hlk hnm, List.forall_mem_append.mpr ⟨sn_X7_thread_3 C hr hlk hnm, sn_X7_thread_4 C hr hlk hnm⟩⟩⟩⟩))
theorem dX7_push_0 : decode cX7_push 0 = .ok (.ldc 89, 2) := by decide +kernel
theorem dX7_push_2 : decode cX7_push 2 = .ok (.istore_n 2, 1) := by decide +kernel
theorem dX7_push_3 : decode cX7_push 3 = .ok (.iconst 0, 1) := by decide +kernel
theorem dX7_push_4 : decode cX7_push 4 = .ok (.istore_n 3, 1) := by decide +kernel
theorem dX7_push_5 : decode cX7_push 5 = .ok (.iload_n 3, 1) := by decide +kernel
theorem dX7_push_6 : decode cX7_push 6 = .ok (.iload_n 1, 1) := by decide +kernel
theorem dX7_push_7 : decode cX7_push 7 = .ok (.if_icmp .ge 35, 3) := by decide +kernel
theorem dX7_push_10 : decode cX7_push 10 = .ok (.aload_n 0, 1) := by decide +kernel
theorem dX7_push_11 : decode cX7_push 11 = .ok (.getfield 17, 3) := by decide +kernel
theorem dX7_push_14 : decode cX7_push 14 = .ok (.aload_n 0, 1) := by decide +kernel
theorem dX7_push_15 : decode cX7_push 15 = .ok (.getfield 32, 3) := by decide +kernel
theorem dX7_push_18 : decode cX7_push 18 = .ok (.iload_n 3, 1) := by decide +kernel
theorem dX7_push_19 : decode cX7_push 19 = .ok (.iaload, 1) := by decide +kernel
theorem dX7_push_20 : decode cX7_push 20 = .ok (.iaload, 1) := by decide +kernel
theorem dX7_push_21 : decode cX7_push 21 = .ok (.istore 4, 2) := by decide +kernel
theorem dX7_push_23 : decode cX7_push 23 = .ok (.iload 4, 2) := by decide +kernel
theorem dX7_push_25 : decode cX7_push 25 = .ok (.iload_n 2, 1) := by decide +kernel
theorem dX7_push_26 : decode cX7_push 26 = .ok (.if_icmp .ge 8, 3) := by decide +kernel
theorem dX7_push_29 : decode cX7_push 29 = .ok (.iload 4, 2) := by decide +kernel
theorem dX7_push_31 : decode cX7_push 31 = .ok (.goto 4, 3) := by decide +kernel
theorem dX7_push_34 : decode cX7_push 34 = .ok (.iload_n 2, 1) := by decide +kernel
theorem dX7_push_35 : decode cX7_push 35 = .ok (.istore_n 2, 1) := by decide +kernel
theorem dX7_push_36 : decode cX7_push 36 = .ok (.iinc 3 1, 3) := by decide +kernel
theorem dX7_push_39 : decode cX7_push 39 = .ok (.goto (-34), 3) := by decide +kernel
theorem dX7_push_42 : decode cX7_push 42 = .ok (.iconst 0, 1) := by decide +kernel
theorem dX7_push_43 : decode cX7_push 43 = .ok (.istore_n 3, 1) := by decide +kernel
theorem dX7_push_44 : decode cX7_push 44 = .ok (.iload_n 3, 1) := by decide +kernel
theorem dX7_push_45 : decode cX7_push 45 = .ok (.iload_n 1, 1) := by decide +kernel
theorem dX7_push_46 : decode cX7_push 46 = .ok (.if_icmp .ge 74, 3) := by decide +kernel
theorem dX7_push_49 : decode cX7_push 49 = .ok (.aload_n 0, 1) := by decide +kernel
theorem dX7_push_50 : decode cX7_push 50 = .ok (.getfield 32, 3) := by decide +kernel
theorem dX7_push_53 : decode cX7_push 53 = .ok (.iload_n 3, 1) := by decide +kernel
theorem dX7_push_54 : decode cX7_push 54 = .ok (.iaload, 1) := by decide +kernel
theorem dX7_push_55 : decode cX7_push 55 = .ok (.istore 4, 2) := by decide +kernel
theorem dX7_push_57 : decode cX7_push 57 = .ok (.aload_n 0, 1) := by decide +kernel
theorem dX7_push_58 : decode cX7_push 58 = .ok (.getfield 17, 3) := by decide +kernel
theorem dX7_push_61 : decode cX7_push 61 = .ok (.iload 4, 2) := by decide +kernel
theorem dX7_push_63 : decode cX7_push 63 = .ok (.dup2, 1) := by decide +kernel
theorem dX7_push_64 : decode cX7_push 64 = .ok (.iaload, 1) := by decide +kernel
theorem dX7_push_65 : decode cX7_push 65 = .ok (.iload_n 2, 1) := by decide +kernel
theorem dX7_push_66 : decode cX7_push 66 = .ok (.isub, 1) := by decide +kernel
theorem dX7_push_67 : decode cX7_push 67 = .ok (.iastore, 1) := by decide +kernel
theorem dX7_push_68 : decode cX7_push 68 = .ok (.aload_n 0, 1) := by decide +kernel
theorem dX7_push_69 : decode cX7_push 69 = .ok (.getfield 17, 3) := by decide +kernel
theorem dX7_push_72 : decode cX7_push 72 = .ok (.iload 4, 2) := by decide +kernel
theorem dX7_push_74 : decode cX7_push 74 = .ok (.iconst 1, 1) := by decide +kernel
theorem dX7_push_75 : decode cX7_push 75 = .ok (.ixor, 1) := by decide +kernel
theorem dX7_push_76 : decode cX7_push 76 = .ok (.dup2, 1) := by decide +kernel
theorem dX7_push_77 : decode cX7_push 77 = .ok (.iaload, 1) := by decide +kernel
theorem dX7_push_78 : decode cX7_push 78 = .ok (.iload_n 2, 1) := by decide +kernel
theorem dX7_push_79 : decode cX7_push 79 = .ok (.iadd, 1) := by decide +kernel
theorem dX7_push_80 : decode cX7_push 80 = .ok (.iastore, 1) := by decide +kernel
theorem dX7_push_81 : decode cX7_push 81 = .ok (.aload_n 0, 1) := by decide +kernel
theorem dX7_push_82 : decode cX7_push 82 = .ok (.dup, 1) := by decide +kernel
theorem dX7_push_83 : decode cX7_push 83 = .ok (.getfield 62, 3) := by decide +kernel
theorem dX7_push_86 : decode cX7_push 86 = .ok (.iload_n 2, 1) := by decide +kernel
theorem dX7_push_87 : decode cX7_push 87 = .ok (.aload_n 0, 1) := by decide +kernel
theorem dX7_push_88 : decode cX7_push 88 = .ok (.getfield 20, 3) := by decide +kernel
theorem dX7_push_91 : decode cX7_push 91 = .ok (.iload 4, 2) := by decide +kernel
theorem dX7_push_93 : decode cX7_push 93 = .ok (.iaload, 1) := by decide +kernel
theorem dX7_push_94 : decode cX7_push 94 = .ok (.imul, 1) := by decide +kernel
theorem dX7_push_95 : decode cX7_push 95 = .ok (.iadd, 1) := by decide +kernel
theorem dX7_push_96 : decode cX7_push 96 = .ok (.putfield 62, 3) := by decide +kernel
theorem dX7_push_99 : decode cX7_push 99 = .ok (.aload_n 0, 1) := by decide +kernel
theorem dX7_push_100 : decode cX7_push 100 = .ok (.getfield 38, 3) := by decide +kernel
theorem dX7_push_103 : decode cX7_push 103 = .ok (.aload_n 0, 1) := by decide +kernel
theorem dX7_push_104 : decode cX7_push 104 = .ok (.getfield 13, 3) := by decide +kernel
theorem dX7_push_107 : decode cX7_push 107 = .ok (.iload 4, 2) := by decide +kernel
theorem dX7_push_109 : decode cX7_push 109 = .ok (.iconst 1, 1) := by decide +kernel
theorem dX7_push_110 : decode cX7_push 110 = .ok (.ixor, 1) := by decide +kernel
theorem dX7_push_111 : decode cX7_push 111 = .ok (.iaload, 1) := by decide +kernel
theorem dX7_push_112 : decode cX7_push 112 = .ok (.iconst 0, 1) := by decide +kernel
theorem dX7_push_113 : decode cX7_push 113 = .ok (.bastore, 1) := by decide +kernel
theorem dX7_push_114 : decode cX7_push 114 = .ok (.iinc 3 1, 3) := by decide +kernel
theorem dX7_push_117 : decode cX7_push 117 = .ok (.goto (-73), 3) := by decide +kernel
theorem dX7_push_120 : decode cX7_push 120 = .ok (.aload_n 0, 1) := by decide +kernel
theorem dX7_push_121 : decode cX7_push 121 = .ok (.dup, 1) := by decide +kernel
theorem dX7_push_122 : decode cX7_push 122 = .ok (.getfield 59, 3) := by decide +kernel
theorem dX7_push_125 : decode cX7_push 125 = .ok (.iload_n 2, 1) := by decide +kernel
theorem dX7_push_126 : decode cX7_push 126 = .ok (.iadd, 1) := by decide +kernel
theorem dX7_push_127 : decode cX7_push 127 = .ok (.putfield 59, 3) := by decide +kernel
theorem dX7_push_130 : decode cX7_push 130 = .ok (.return_, 1) := by decide +kernel
abbrev tl_X7_push_0 : List (Nat × oOp) := [(0, o_push (vI 268435456) 2), (2, o_ist 2 3), (3, o_push (vI 0) 4), (4, o_ist 3 5), (5, o_ild 3 6), (6, o_ild 1 7), (7, o_ic pGe 42 10), (10, o_ald 0 11), (11, o_getR [7] 1 14), (14, o_ald 0 15), (15, o_getR [7] 6 18), (18, o_ild 3 19), (19, o_xald 13 20), (20, o_xald 13 21), (21, o_ist 4 23), (23, o_ild 4 25), (25, o_ild 2 26), (26, o_ic pGe 34 29), (29, o_ild 4 31), (31, o_go 35), (34, o_ild 2 35), (35, o_ist 2 36), (36, o_inc 3 1 39), (39, o_go 5)]
abbrev tl_X7_push_1 : List (Nat × oOp) := [(42, o_push (vI 0) 43), (43, o_ist 3 44), (44, o_ild 3 45), (45, o_ild 1 46), (46, o_ic pGe 120 49), (49, o_ald 0 50), (50, o_getR [7] 6 53), (53, o_ild 3 54), (54, o_xald 13 55), (55, o_ist 4 57), (57, o_ald 0 58), (58, o_getR [7] 1 61), (61, o_ild 4 63), (63, o_dup2 64), (64, o_xald 13 65), (65, o_ild 2 66), (66, o_ib fSub 67), (67, o_iast 68), (68, o_ald 0 69), (69, o_getR [7] 1 72), (72, o_ild 4 74), (74, o_push (vI 1) 75), (75, o_ib fXor 76), (76, o_dup2 77)]
abbrev tl_X7_push_2 : List (Nat × oOp) := [(77, o_xald 13 78), (78, o_ild 2 79), (79, o_ib fAdd 80), (80, o_iast 81), (81, o_ald 0 82), (82, o_dup 83), (83, o_getI [7] 12 86), (86, o_ild 2 87), (87, o_ald 0 88), (88, o_getR [7] 2 91), (91, o_ild 4 93), (93, o_xald 13 94), (94, o_ib fMul 95), (95, o_ib fAdd 96), (96, o_putI [7] 12 99), (99, o_ald 0 100), (100, o_getR [7] 8 103), (103, o_ald 0 104), (104, o_getR [7] 0 107), (107, o_ild 4 109), (109, o_push (vI 1) 110), (110, o_ib fXor 111), (111, o_xald 13 112), (112, o_push (vI 0) 113)]
abbrev tl_X7_push_3 : List (Nat × oOp) := [(113, o_zast 114), (114, o_inc 3 1 117), (117, o_go 44), (120, o_ald 0 121), (121, o_dup 122), (122, o_getI [7] 11 125), (125, o_ild 2 126), (126, o_ib fAdd 127), (127, o_putI [7] 11 130), (130, o_ret0 0 0)]
set_option maxRecDepth 20000 in
def tb_X7_push : Nat → oOp := oTab [(0, o_push (vI 268435456) 2), (2, o_ist 2 3), (3, o_push (vI 0) 4), (4, o_ist 3 5), (5, o_ild 3 6), (6, o_ild 1 7), (7, o_ic pGe 42 10), (10, o_ald 0 11), (11, o_getR [7] 1 14), (14, o_ald 0 15), (15, o_getR [7] 6 18), (18, o_ild 3 19), (19, o_xald 13 20), (20, o_xald 13 21), (21, o_ist 4 23), (23, o_ild 4 25), (25, o_ild 2 26), (26, o_ic pGe 34 29), (29, o_ild 4 31), (31, o_go 35), (34, o_ild 2 35), (35, o_ist 2 36), (36, o_inc 3 1 39), (39, o_go 5), (42, o_push (vI 0) 43), (43, o_ist 3 44), (44, o_ild 3 45), (45, o_ild 1 46), (46, o_ic pGe 120 49), (49, o_ald 0 50), (50, o_getR [7] 6 53), (53, o_ild 3 54), (54, o_xald 13 55), (55, o_ist 4 57), (57, o_ald 0 58), (58, o_getR [7] 1 61), (61, o_ild 4 63), (63, o_dup2 64), (64, o_xald 13 65), (65, o_ild 2 66), (66, o_ib fSub 67), (67, o_iast 68), (68, o_ald 0 69), (69, o_getR [7] 1 72), (72, o_ild 4 74), (74, o_push (vI 1) 75), (75, o_ib fXor 76), (76, o_dup2 77), (77, o_xald 13 78), (78, o_ild 2 79), (79, o_ib fAdd 80), (80, o_iast 81), (81, o_ald 0 82), (82, o_dup 83), (83, o_getI [7] 12 86), (86, o_ild 2 87), (87, o_ald 0 88), (88, o_getR [7] 2 91), (91, o_ild 4 93), (93, o_xald 13 94), (94, o_ib fMul 95), (95, o_ib fAdd 96), (96, o_putI [7] 12 99), (99, o_ald 0 100), (100, o_getR [7] 8 103), (103, o_ald 0 104), (104, o_getR [7] 0 107), (107, o_ild 4 109), (109, o_push (vI 1) 110), (110, o_ib fXor 111), (111, o_xald 13 112), (112, o_push (vI 0) 113), (113, o_zast 114), (114, o_inc 3 1 117), (117, o_go 44), (120, o_ald 0 121), (121, o_dup 122), (122, o_getI [7] 11 125), (125, o_ild 2 126), (126, o_ib fAdd 127), (127, o_putI [7] 11 130), (130, o_ret0 0 0)]
def T_X7_push : List oA → oM → oQ → Prop := oT tb_X7_push 5
set_option maxRecDepth 20000 in
theorem sn_X7_push_0 {p : Program} {l : Launch} {e : Env} {s : State} {m : MethodId} {args : Array Value} {below : List Frame} {meth : Method} {c : Code} {D : va_G} {ids : Nat → ClassId} {b : Nat} {Q : oQ} (C : oCx p s m args c cX7_push 5 (yX7_push).cls D ids b) (hr : meth.sig.returnType = none) (hlk : meth.locks = false) (hnm : meth.name = (yX7_push).name) : ∀ q ∈ tl_X7_push_0, oSn (oW p l e (oRm 0 0 0 0) s m args below meth c 5 D ids b (oMQ D ids b below Q args s 0 0)) Q q.1 q.2 := List.forall_mem_cons.mpr ⟨so_ldc C 268435456 (by decide) kw_622 dX7_push_0, List.forall_mem_cons.mpr ⟨so_istore_n C 2 rfl (by decide) dX7_push_2, List.forall_mem_cons.mpr ⟨so_iconst C 0 rfl dX7_push_3, List.forall_mem_cons.mpr ⟨so_istore_n C 3 rfl (by decide) dX7_push_4, List.forall_mem_cons.mpr ⟨so_iload_n C 3 rfl dX7_push_5, List.forall_mem_cons.mpr ⟨so_iload_n C 1 rfl dX7_push_6, List.forall_mem_cons.mpr ⟨so_ic_ge C (by decide) dX7_push_7, List.forall_mem_cons.mpr ⟨so_aload_n C 0 rfl dX7_push_10, List.forall_mem_cons.mpr ⟨so_getR C [7] 1 (fd_RX7_17_7 C) (ft_7_1) dX7_push_11, List.forall_mem_cons.mpr ⟨so_aload_n C 0 rfl dX7_push_14, List.forall_mem_cons.mpr ⟨so_getR C [7] 6 (fd_RX7_32_7 C) (ft_7_6) dX7_push_15, List.forall_mem_cons.mpr ⟨so_iload_n C 3 rfl dX7_push_18, List.forall_mem_cons.mpr ⟨so_iald C dX7_push_19, List.forall_mem_cons.mpr ⟨so_iald C dX7_push_20, List.forall_mem_cons.mpr ⟨so_istore C 4 (by decide) dX7_push_21, List.forall_mem_cons.mpr ⟨so_iload C 4 dX7_push_23, List.forall_mem_cons.mpr ⟨so_iload_n C 2 rfl dX7_push_25, List.forall_mem_cons.mpr ⟨so_ic_ge C (by decide) dX7_push_26, List.forall_mem_cons.mpr ⟨so_iload C 4 dX7_push_29, List.forall_mem_cons.mpr ⟨so_goto C (by decide) dX7_push_31, List.forall_mem_cons.mpr ⟨so_iload_n C 2 rfl dX7_push_34, List.forall_mem_cons.mpr ⟨so_istore_n C 2 rfl (by decide) dX7_push_35, List.forall_mem_cons.mpr ⟨so_iinc C 3 1 (by decide) dX7_push_36, List.forall_mem_cons.mpr ⟨so_goto C (by decide) dX7_push_39, fun _ h => absurd h List.not_mem_nil⟩⟩⟩⟩⟩⟩⟩⟩⟩⟩⟩⟩⟩⟩⟩⟩⟩⟩⟩⟩⟩⟩⟩⟩
set_option maxRecDepth 20000 in
theorem sn_X7_push_1 {p : Program} {l : Launch} {e : Env} {s : State} {m : MethodId} {args : Array Value} {below : List Frame} {meth : Method} {c : Code} {D : va_G} {ids : Nat → ClassId} {b : Nat} {Q : oQ} (C : oCx p s m args c cX7_push 5 (yX7_push).cls D ids b) (hr : meth.sig.returnType = none) (hlk : meth.locks = false) (hnm : meth.name = (yX7_push).name) : ∀ q ∈ tl_X7_push_1, oSn (oW p l e (oRm 0 0 0 0) s m args below meth c 5 D ids b (oMQ D ids b below Q args s 0 0)) Q q.1 q.2 := List.forall_mem_cons.mpr ⟨so_iconst C 0 rfl dX7_push_42, List.forall_mem_cons.mpr ⟨so_istore_n C 3 rfl (by decide) dX7_push_43, List.forall_mem_cons.mpr ⟨so_iload_n C 3 rfl dX7_push_44, List.forall_mem_cons.mpr ⟨so_iload_n C 1 rfl dX7_push_45, List.forall_mem_cons.mpr ⟨so_ic_ge C (by decide) dX7_push_46, List.forall_mem_cons.mpr ⟨so_aload_n C 0 rfl dX7_push_49, List.forall_mem_cons.mpr ⟨so_getR C [7] 6 (fd_RX7_32_7 C) (ft_7_6) dX7_push_50, List.forall_mem_cons.mpr ⟨so_iload_n C 3 rfl dX7_push_53, List.forall_mem_cons.mpr ⟨so_iald C dX7_push_54, List.forall_mem_cons.mpr ⟨so_istore C 4 (by decide) dX7_push_55, List.forall_mem_cons.mpr ⟨so_aload_n C 0 rfl dX7_push_57, List.forall_mem_cons.mpr ⟨so_getR C [7] 1 (fd_RX7_17_7 C) (ft_7_1) dX7_push_58, List.forall_mem_cons.mpr ⟨so_iload C 4 dX7_push_61, List.forall_mem_cons.mpr ⟨so_dup2 C dX7_push_63, List.forall_mem_cons.mpr ⟨so_iald C dX7_push_64, List.forall_mem_cons.mpr ⟨so_iload_n C 2 rfl dX7_push_65, List.forall_mem_cons.mpr ⟨so_isub C dX7_push_66, List.forall_mem_cons.mpr ⟨so_iast C dX7_push_67, List.forall_mem_cons.mpr ⟨so_aload_n C 0 rfl dX7_push_68, List.forall_mem_cons.mpr ⟨so_getR C [7] 1 (fd_RX7_17_7 C) (ft_7_1) dX7_push_69, List.forall_mem_cons.mpr ⟨so_iload C 4 dX7_push_72, List.forall_mem_cons.mpr ⟨so_iconst C 1 rfl dX7_push_74, List.forall_mem_cons.mpr ⟨so_ixor C dX7_push_75, List.forall_mem_cons.mpr ⟨so_dup2 C dX7_push_76, fun _ h => absurd h List.not_mem_nil⟩⟩⟩⟩⟩⟩⟩⟩⟩⟩⟩⟩⟩⟩⟩⟩⟩⟩⟩⟩⟩⟩⟩⟩
set_option maxRecDepth 20000 in
theorem sn_X7_push_2 {p : Program} {l : Launch} {e : Env} {s : State} {m : MethodId} {args : Array Value} {below : List Frame} {meth : Method} {c : Code} {D : va_G} {ids : Nat → ClassId} {b : Nat} {Q : oQ} (C : oCx p s m args c cX7_push 5 (yX7_push).cls D ids b) (hr : meth.sig.returnType = none) (hlk : meth.locks = false) (hnm : meth.name = (yX7_push).name) : ∀ q ∈ tl_X7_push_2, oSn (oW p l e (oRm 0 0 0 0) s m args below meth c 5 D ids b (oMQ D ids b below Q args s 0 0)) Q q.1 q.2 := List.forall_mem_cons.mpr ⟨so_iald C dX7_push_77, List.forall_mem_cons.mpr ⟨so_iload_n C 2 rfl dX7_push_78, List.forall_mem_cons.mpr ⟨so_iadd C dX7_push_79, List.forall_mem_cons.mpr ⟨so_iast C dX7_push_80, List.forall_mem_cons.mpr ⟨so_aload_n C 0 rfl dX7_push_81, List.forall_mem_cons.mpr ⟨so_dup C dX7_push_82, List.forall_mem_cons.mpr ⟨so_getI C [7] 12 (fd_RX7_62_7 C) (by decide) dX7_push_83, List.forall_mem_cons.mpr ⟨so_iload_n C 2 rfl dX7_push_86, List.forall_mem_cons.mpr ⟨so_aload_n C 0 rfl dX7_push_87, List.forall_mem_cons.mpr ⟨so_getR C [7] 2 (fd_RX7_20_7 C) (ft_7_2) dX7_push_88, List.forall_mem_cons.mpr ⟨so_iload C 4 dX7_push_91, List.forall_mem_cons.mpr ⟨so_iald C dX7_push_93, List.forall_mem_cons.mpr ⟨so_imul C dX7_push_94, List.forall_mem_cons.mpr ⟨so_iadd C dX7_push_95, List.forall_mem_cons.mpr ⟨so_putI C [7] 12 (fd_RX7_62_7 C) (fn_7_12) (by decide) dX7_push_96, List.forall_mem_cons.mpr ⟨so_aload_n C 0 rfl dX7_push_99, List.forall_mem_cons.mpr ⟨so_getR C [7] 8 (fd_RX7_38_7 C) (ft_7_8) dX7_push_100, List.forall_mem_cons.mpr ⟨so_aload_n C 0 rfl dX7_push_103, List.forall_mem_cons.mpr ⟨so_getR C [7] 0 (fd_RX7_13_7 C) (ft_7_0) dX7_push_104, List.forall_mem_cons.mpr ⟨so_iload C 4 dX7_push_107, List.forall_mem_cons.mpr ⟨so_iconst C 1 rfl dX7_push_109, List.forall_mem_cons.mpr ⟨so_ixor C dX7_push_110, List.forall_mem_cons.mpr ⟨so_iald C dX7_push_111, List.forall_mem_cons.mpr ⟨so_iconst C 0 rfl dX7_push_112, fun _ h => absurd h List.not_mem_nil⟩⟩⟩⟩⟩⟩⟩⟩⟩⟩⟩⟩⟩⟩⟩⟩⟩⟩⟩⟩⟩⟩⟩⟩
set_option maxRecDepth 20000 in
theorem sn_X7_push_3 {p : Program} {l : Launch} {e : Env} {s : State} {m : MethodId} {args : Array Value} {below : List Frame} {meth : Method} {c : Code} {D : va_G} {ids : Nat → ClassId} {b : Nat} {Q : oQ} (C : oCx p s m args c cX7_push 5 (yX7_push).cls D ids b) (hr : meth.sig.returnType = none) (hlk : meth.locks = false) (hnm : meth.name = (yX7_push).name) : ∀ q ∈ tl_X7_push_3, oSn (oW p l e (oRm 0 0 0 0) s m args below meth c 5 D ids b (oMQ D ids b below Q args s 0 0)) Q q.1 q.2 := List.forall_mem_cons.mpr ⟨so_zast C dX7_push_113, List.forall_mem_cons.mpr ⟨so_iinc C 3 1 (by decide) dX7_push_114, List.forall_mem_cons.mpr ⟨so_goto C (by decide) dX7_push_117, List.forall_mem_cons.mpr ⟨so_aload_n C 0 rfl dX7_push_120, List.forall_mem_cons.mpr ⟨so_dup C dX7_push_121, List.forall_mem_cons.mpr ⟨so_getI C [7] 11 (fd_RX7_59_7 C) (by decide) dX7_push_122, List.forall_mem_cons.mpr ⟨so_iload_n C 2 rfl dX7_push_125, List.forall_mem_cons.mpr ⟨so_iadd C dX7_push_126, List.forall_mem_cons.mpr ⟨so_putI C [7] 11 (fd_RX7_59_7 C) (fn_7_11) (by decide) dX7_push_127, List.forall_mem_cons.mpr ⟨so_ret0 C 0 0 hr hlk dX7_push_130, fun _ h => absurd h List.not_mem_nil⟩⟩⟩⟩⟩⟩⟩⟩⟩⟩
set_option maxRecDepth 20000 in
theorem c_X7_push (l : Launch) (D : va_G) (ids : Nat → ClassId) : oMT l D ids yX7_push cX7_push 5 none 0 0 0 0 T_X7_push := oMet l D ids tb_X7_push (by decide) (fun p e s m args below meth c b Q C hr hlk hnm => oTab_all (tl_X7_push_0 ++ (tl_X7_push_1 ++ (tl_X7_push_2 ++ (tl_X7_push_3)))) (List.forall_mem_append.mpr ⟨sn_X7_push_0 C hr hlk hnm, List.forall_mem_append.mpr ⟨sn_X7_push_1 C hr hlk hnm, List.forall_mem_append.mpr ⟨sn_X7_push_2 C hr hlk hnm, sn_X7_push_3 C hr hlk hnm⟩⟩⟩))
theorem dX7_fill_0 : decode cX7_fill 0 = .ok (.iconst 0, 1) := by decide +kernel
theorem dX7_fill_1 : decode cX7_fill 1 = .ok (.istore_n 1, 1) := by decide +kernel
theorem dX7_fill_2 : decode cX7_fill 2 = .ok (.iload_n 1, 1) := by decide +kernel
theorem dX7_fill_3 : decode cX7_fill 3 = .ok (.sipush 1000, 3) := by decide +kernel
theorem dX7_fill_6 : decode cX7_fill 6 = .ok (.if_icmp .ge 90, 3) := by decide +kernel
theorem dX7_fill_9 : decode cX7_fill 9 = .ok (.aload_n 0, 1) := by decide +kernel
theorem dX7_fill_10 : decode cX7_fill 10 = .ok (.invokevirtual 71, 3) := by decide +kernel
theorem dX7_fill_13 : decode cX7_fill 13 = .ok (.ifCond .eq 83, 3) := by decide +kernel
theorem dX7_fill_16 : decode cX7_fill 16 = .ok (.aload_n 0, 1) := by decide +kernel
theorem dX7_fill_17 : decode cX7_fill 17 = .ok (.getfield 26, 3) := by decide +kernel
theorem dX7_fill_20 : decode cX7_fill 20 = .ok (.iconst 0, 1) := by decide +kernel
theorem dX7_fill_21 : decode cX7_fill 21 = .ok (.aload_n 0, 1) := by decide +kernel
theorem dX7_fill_22 : decode cX7_fill 22 = .ok (.getfield 35, 3) := by decide +kernel
theorem dX7_fill_25 : decode cX7_fill 25 = .ok (.iconst 0, 1) := by decide +kernel
theorem dX7_fill_26 : decode cX7_fill 26 = .ok (.aload_n 0, 1) := by decide +kernel
theorem dX7_fill_27 : decode cX7_fill 27 = .ok (.getfield 48, 3) := by decide +kernel
theorem dX7_fill_30 : decode cX7_fill 30 = .ok (.invokestatic 75, 3) := by decide +kernel
theorem dX7_fill_33 : decode cX7_fill 33 = .ok (.iconst 0, 1) := by decide +kernel
theorem dX7_fill_34 : decode cX7_fill 34 = .ok (.istore_n 2, 1) := by decide +kernel
theorem dX7_fill_35 : decode cX7_fill 35 = .ok (.iload_n 2, 1) := by decide +kernel
theorem dX7_fill_36 : decode cX7_fill 36 = .ok (.aload_n 0, 1) := by decide +kernel
theorem dX7_fill_37 : decode cX7_fill 37 = .ok (.getfield 48, 3) := by decide +kernel
theorem dX7_fill_40 : decode cX7_fill 40 = .ok (.if_icmp .ge 16, 3) := by decide +kernel
theorem dX7_fill_43 : decode cX7_fill 43 = .ok (.aload_n 0, 1) := by decide +kernel
theorem dX7_fill_44 : decode cX7_fill 44 = .ok (.getfield 38, 3) := by decide +kernel
theorem dX7_fill_47 : decode cX7_fill 47 = .ok (.iload_n 2, 1) := by decide +kernel
theorem dX7_fill_48 : decode cX7_fill 48 = .ok (.iconst 0, 1) := by decide +kernel
theorem dX7_fill_49 : decode cX7_fill 49 = .ok (.bastore, 1) := by decide +kernel
theorem dX7_fill_50 : decode cX7_fill 50 = .ok (.iinc 2 1, 3) := by decide +kernel
theorem dX7_fill_53 : decode cX7_fill 53 = .ok (.goto (-18), 3) := by decide +kernel
theorem dX7_fill_56 : decode cX7_fill 56 = .ok (.aload_n 0, 1) := by decide +kernel
theorem dX7_fill_57 : decode cX7_fill 57 = .ok (.invokevirtual 81, 3) := by decide +kernel
theorem dX7_fill_60 : decode cX7_fill 60 = .ok (.istore_n 2, 1) := by decide +kernel
theorem dX7_fill_61 : decode cX7_fill 61 = .ok (.iconst 0, 1) := by decide +kernel
theorem dX7_fill_62 : decode cX7_fill 62 = .ok (.istore_n 3, 1) := by decide +kernel
theorem dX7_fill_63 : decode cX7_fill 63 = .ok (.iload_n 3, 1) := by decide +kernel
theorem dX7_fill_64 : decode cX7_fill 64 = .ok (.sipush 1000, 3) := by decide +kernel
theorem dX7_fill_67 : decode cX7_fill 67 = .ok (.if_icmp .ge 23, 3) := by decide +kernel
theorem dX7_fill_70 : decode cX7_fill 70 = .ok (.iload_n 2, 1) := by decide +kernel
theorem dX7_fill_71 : decode cX7_fill 71 = .ok (.ifCond .le 19, 3) := by decide +kernel
theorem dX7_fill_74 : decode cX7_fill 74 = .ok (.aload_n 0, 1) := by decide +kernel
theorem dX7_fill_75 : decode cX7_fill 75 = .ok (.iload_n 2, 1) := by decide +kernel
theorem dX7_fill_76 : decode cX7_fill 76 = .ok (.invokevirtual 85, 3) := by decide +kernel
theorem dX7_fill_79 : decode cX7_fill 79 = .ok (.aload_n 0, 1) := by decide +kernel
theorem dX7_fill_80 : decode cX7_fill 80 = .ok (.invokevirtual 81, 3) := by decide +kernel
theorem dX7_fill_83 : decode cX7_fill 83 = .ok (.istore_n 2, 1) := by decide +kernel
theorem dX7_fill_84 : decode cX7_fill 84 = .ok (.iinc 3 1, 3) := by decide +kernel
theorem dX7_fill_87 : decode cX7_fill 87 = .ok (.goto (-24), 3) := by decide +kernel
theorem dX7_fill_90 : decode cX7_fill 90 = .ok (.iinc 1 1, 3) := by decide +kernel
theorem dX7_fill_93 : decode cX7_fill 93 = .ok (.goto (-91), 3) := by decide +kernel
theorem dX7_fill_96 : decode cX7_fill 96 = .ok (.return_, 1) := by decide +kernel
abbrev tl_X7_fill_0 : List (Nat × oOp) := [(0, o_push (vI 0) 1), (1, o_ist 1 2), (2, o_ild 1 3), (3, o_push (vI 1000) 6), (6, o_ic pGe 96 9), (9, o_ald 0 10), (10, o_callo T_X7_measure 7 0 0 0 0 0 13), (13, o_if zEq 96 16), (16, o_ald 0 17), (17, o_getR [7] 4 20), (20, o_push (vI 0) 21), (21, o_ald 0 22), (22, o_getR [7] 7 25), (25, o_push (vI 0) 26), (26, o_ald 0 27), (27, o_getI [7] 9 30), (30, o_copy 33), (33, o_push (vI 0) 34), (34, o_ist 2 35), (35, o_ild 2 36), (36, o_ald 0 37), (37, o_getI [7] 9 40), (40, o_ic pGe 56 43), (43, o_ald 0 44)]
abbrev tl_X7_fill_1 : List (Nat × oOp) := [(44, o_getR [7] 8 47), (47, o_ild 2 48), (48, o_push (vI 0) 49), (49, o_zast 50), (50, o_inc 2 1 53), (53, o_go 35), (56, o_ald 0 57), (57, o_callo T_X7_thread 7 0 0 0 0 0 60), (60, o_ist 2 61), (61, o_push (vI 0) 62), (62, o_ist 3 63), (63, o_ild 3 64), (64, o_push (vI 1000) 67), (67, o_ic pGe 90 70), (70, o_ild 2 71), (71, o_if zLe 90 74), (74, o_ald 0 75), (75, o_ild 2 76), (76, o_callo T_X7_push 7 1 0 0 0 0 79), (79, o_ald 0 80), (80, o_callo T_X7_thread 7 0 0 0 0 0 83), (83, o_ist 2 84), (84, o_inc 3 1 87), (87, o_go 63)]
abbrev tl_X7_fill_2 : List (Nat × oOp) := [(90, o_inc 1 1 93), (93, o_go 2), (96, o_ret0 0 0)]
set_option maxRecDepth 20000 in
def tb_X7_fill : Nat → oOp := oTab [(0, o_push (vI 0) 1), (1, o_ist 1 2), (2, o_ild 1 3), (3, o_push (vI 1000) 6), (6, o_ic pGe 96 9), (9, o_ald 0 10), (10, o_callo T_X7_measure 7 0 0 0 0 0 13), (13, o_if zEq 96 16), (16, o_ald 0 17), (17, o_getR [7] 4 20), (20, o_push (vI 0) 21), (21, o_ald 0 22), (22, o_getR [7] 7 25), (25, o_push (vI 0) 26), (26, o_ald 0 27), (27, o_getI [7] 9 30), (30, o_copy 33), (33, o_push (vI 0) 34), (34, o_ist 2 35), (35, o_ild 2 36), (36, o_ald 0 37), (37, o_getI [7] 9 40), (40, o_ic pGe 56 43), (43, o_ald 0 44), (44, o_getR [7] 8 47), (47, o_ild 2 48), (48, o_push (vI 0) 49), (49, o_zast 50), (50, o_inc 2 1 53), (53, o_go 35), (56, o_ald 0 57), (57, o_callo T_X7_thread 7 0 0 0 0 0 60), (60, o_ist 2 61), (61, o_push (vI 0) 62), (62, o_ist 3 63), (63, o_ild 3 64), (64, o_push (vI 1000) 67), (67, o_ic pGe 90 70), (70, o_ild 2 71), (71, o_if zLe 90 74), (74, o_ald 0 75), (75, o_ild 2 76), (76, o_callo T_X7_push 7 1 0 0 0 0 79), (79, o_ald 0 80), (80, o_callo T_X7_thread 7 0 0 0 0 0 83), (83, o_ist 2 84), (84, o_inc 3 1 87), (87, o_go 63), (90, o_inc 1 1 93), (93, o_go 2), (96, o_ret0 0 0)]
def T_X7_fill : List oA → oM → oQ → Prop := oT tb_X7_fill 4
set_option maxRecDepth 20000 in
theorem sn_X7_fill_0 {p : Program} {l : Launch} {e : Env} {s : State} {m : MethodId} {args : Array Value} {below : List Frame} {meth : Method} {c : Code} {D : va_G} {ids : Nat → ClassId} {b : Nat} {Q : oQ} (C : oCx p s m args c cX7_fill 4 (yX7_fill).cls D ids b) (hr : meth.sig.returnType = none) (hlk : meth.locks = false) (hnm : meth.name = (yX7_fill).name) : ∀ q ∈ tl_X7_fill_0, oSn (oW p l e (oRm 1 40 0 0) s m args below meth c 4 D ids b (oMQ D ids b below Q args s 0 0)) Q q.1 q.2 := List.forall_mem_cons.mpr ⟨so_iconst C 0 rfl dX7_fill_0, List.forall_mem_cons.mpr ⟨so_istore_n C 1 rfl (by decide) dX7_fill_1, List.forall_mem_cons.mpr ⟨so_iload_n C 1 rfl dX7_fill_2, List.forall_mem_cons.mpr ⟨so_sipush C 1000 rfl dX7_fill_3, List.forall_mem_cons.mpr ⟨so_ic_ge C (by decide) dX7_fill_6, List.forall_mem_cons.mpr ⟨so_aload_n C 0 rfl dX7_fill_9, List.forall_mem_cons.mpr ⟨so_callV C (y := yX7_measure) 7 0 0 0 (RX7, TX7, 14) (by decide) rfl rfl ⟨Nat.le_refl _, Nat.le_refl _⟩ (c_X7_measure l D ids) kw_621 kw_618 kw_620 kp_15 kw_9 hy_X7_measure ⟨Nat.le_of_ble_eq_true rfl, Nat.le_of_ble_eq_true rfl⟩ dX7_fill_10, List.forall_mem_cons.mpr ⟨so_if_eq C (by decide) dX7_fill_13, List.forall_mem_cons.mpr ⟨so_aload_n C 0 rfl dX7_fill_16, List.forall_mem_cons.mpr ⟨so_getR C [7] 4 (fd_RX7_26_7 C) (ft_7_4) dX7_fill_17, List.forall_mem_cons.mpr ⟨so_iconst C 0 rfl dX7_fill_20, List.forall_mem_cons.mpr ⟨so_aload_n C 0 rfl dX7_fill_21, List.forall_mem_cons.mpr ⟨so_getR C [7] 7 (fd_RX7_35_7 C) (ft_7_7) dX7_fill_22, List.forall_mem_cons.mpr ⟨so_iconst C 0 rfl dX7_fill_25, List.forall_mem_cons.mpr ⟨so_aload_n C 0 rfl dX7_fill_26, List.forall_mem_cons.mpr ⟨so_getI C [7] 9 (fd_RX7_48_7 C) (by decide) dX7_fill_27, List.forall_mem_cons.mpr ⟨so_copy C kw_624 kw_441 kw_440 kw_13 (by decide) (by decide) dX7_fill_30, List.forall_mem_cons.mpr ⟨so_iconst C 0 rfl dX7_fill_33, List.forall_mem_cons.mpr ⟨so_istore_n C 2 rfl (by decide) dX7_fill_34, List.forall_mem_cons.mpr ⟨so_iload_n C 2 rfl dX7_fill_35, List.forall_mem_cons.mpr ⟨so_aload_n C 0 rfl dX7_fill_36, List.forall_mem_cons.mpr ⟨so_getI C [7] 9 (fd_RX7_48_7 C) (by decide) dX7_fill_37, List.forall_mem_cons.mpr ⟨so_ic_ge C (by decide) dX7_fill_40, List.forall_mem_cons.mpr ⟨so_aload_n C 0 rfl dX7_fill_43, fun _ h => absurd h List.not_mem_nil⟩⟩⟩⟩⟩⟩⟩⟩⟩⟩⟩⟩⟩⟩⟩⟩⟩⟩⟩⟩⟩⟩⟩⟩
set_option maxRecDepth 20000 in
theorem sn_X7_fill_1 {p : Program} {l : Launch} {e : Env} {s : State} {m : MethodId} {args : Array Value} {below : List Frame} {meth : Method} {c : Code} {D : va_G} {ids : Nat → ClassId} {b : Nat} {Q : oQ} (C : oCx p s m args c cX7_fill 4 (yX7_fill).cls D ids b) (hr : meth.sig.returnType = none) (hlk : meth.locks = false) (hnm : meth.name = (yX7_fill).name) : ∀ q ∈ tl_X7_fill_1, oSn (oW p l e (oRm 1 40 0 0) s m args below meth c 4 D ids b (oMQ D ids b below Q args s 0 0)) Q q.1 q.2 := List.forall_mem_cons.mpr ⟨so_getR C [7] 8 (fd_RX7_38_7 C) (ft_7_8) dX7_fill_44, List.forall_mem_cons.mpr ⟨so_iload_n C 2 rfl dX7_fill_47, List.forall_mem_cons.mpr ⟨so_iconst C 0 rfl dX7_fill_48, List.forall_mem_cons.mpr ⟨so_zast C dX7_fill_49, List.forall_mem_cons.mpr ⟨so_iinc C 2 1 (by decide) dX7_fill_50, List.forall_mem_cons.mpr ⟨so_goto C (by decide) dX7_fill_53, List.forall_mem_cons.mpr ⟨so_aload_n C 0 rfl dX7_fill_56, List.forall_mem_cons.mpr ⟨so_callV C (y := yX7_thread) 7 0 0 0 (RX7, TX7, 14) (by decide) rfl rfl ⟨Nat.le_refl _, Nat.le_refl _⟩ (c_X7_thread l D ids) kw_628 kw_625 kw_627 kp_16 kw_9 hy_X7_thread ⟨Nat.le_of_ble_eq_true rfl, Nat.le_of_ble_eq_true rfl⟩ dX7_fill_57, List.forall_mem_cons.mpr ⟨so_istore_n C 2 rfl (by decide) dX7_fill_60, List.forall_mem_cons.mpr ⟨so_iconst C 0 rfl dX7_fill_61, List.forall_mem_cons.mpr ⟨so_istore_n C 3 rfl (by decide) dX7_fill_62, List.forall_mem_cons.mpr ⟨so_iload_n C 3 rfl dX7_fill_63, List.forall_mem_cons.mpr ⟨so_sipush C 1000 rfl dX7_fill_64, List.forall_mem_cons.mpr ⟨so_ic_ge C (by decide) dX7_fill_67, List.forall_mem_cons.mpr ⟨so_iload_n C 2 rfl dX7_fill_70, List.forall_mem_cons.mpr ⟨so_if_le C (by decide) dX7_fill_71, List.forall_mem_cons.mpr ⟨so_aload_n C 0 rfl dX7_fill_74, List.forall_mem_cons.mpr ⟨so_iload_n C 2 rfl dX7_fill_75, List.forall_mem_cons.mpr ⟨so_callV C (y := yX7_push) 7 1 0 0 (RX7, TX7, 14) (by decide) rfl rfl ⟨Nat.le_refl _, Nat.le_refl _⟩ (c_X7_push l D ids) kw_632 kw_629 kw_631 kp_17 kw_9 hy_X7_push ⟨Nat.le_of_ble_eq_true rfl, Nat.le_of_ble_eq_true rfl⟩ dX7_fill_76, List.forall_mem_cons.mpr ⟨so_aload_n C 0 rfl dX7_fill_79, List.forall_mem_cons.mpr ⟨so_callV C (y := yX7_thread) 7 0 0 0 (RX7, TX7, 14) (by decide) rfl rfl ⟨Nat.le_refl _, Nat.le_refl _⟩ (c_X7_thread l D ids) kw_628 kw_625 kw_627 kp_16 kw_9 hy_X7_thread ⟨Nat.le_of_ble_eq_true rfl, Nat.le_of_ble_eq_true rfl⟩ dX7_fill_80, List.forall_mem_cons.mpr ⟨so_istore_n C 2 rfl (by decide) dX7_fill_83, List.forall_mem_cons.mpr ⟨so_iinc C 3 1 (by decide) dX7_fill_84, List.forall_mem_cons.mpr ⟨so_goto C (by decide) dX7_fill_87, fun _ h => absurd h List.not_mem_nil⟩⟩⟩⟩⟩⟩⟩⟩⟩⟩⟩⟩⟩⟩⟩⟩⟩⟩⟩⟩⟩⟩⟩⟩
set_option maxRecDepth 20000 in
theorem sn_X7_fill_2 {p : Program} {l : Launch} {e : Env} {s : State} {m : MethodId} {args : Array Value} {below : List Frame} {meth : Method} {c : Code} {D : va_G} {ids : Nat → ClassId} {b : Nat} {Q : oQ} (C : oCx p s m args c cX7_fill 4 (yX7_fill).cls D ids b) (hr : meth.sig.returnType = none) (hlk : meth.locks = false) (hnm : meth.name = (yX7_fill).name) : ∀ q ∈ tl_X7_fill_2, oSn (oW p l e (oRm 1 40 0 0) s m args below meth c 4 D ids b (oMQ D ids b below Q args s 0 0)) Q q.1 q.2 := List.forall_mem_cons.mpr ⟨so_iinc C 1 1 (by decide) dX7_fill_90, List.forall_mem_cons.mpr ⟨so_goto C (by decide) dX7_fill_93, List.forall_mem_cons.mpr ⟨so_ret0 C 0 0 hr hlk dX7_fill_96, fun _ h => absurd h List.not_mem_nil⟩⟩⟩
set_option maxRecDepth 20000 in
theorem c_X7_fill (l : Launch) (D : va_G) (ids : Nat → ClassId) : oMT l D ids yX7_fill cX7_fill 4 none 1 40 0 0 T_X7_fill := oMet l D ids tb_X7_fill (by decide) (fun p e s m args below meth c b Q C hr hlk hnm => oTab_all (tl_X7_fill_0 ++ (tl_X7_fill_1 ++ (tl_X7_fill_2))) (List.forall_mem_append.mpr ⟨sn_X7_fill_0 C hr hlk hnm, List.forall_mem_append.mpr ⟨sn_X7_fill_1 C hr hlk hnm, sn_X7_fill_2 C hr hlk hnm⟩⟩))
theorem dX6_allMen_0 : decode cX6_allMen 0 = .ok (.iconst 0, 1) := by decide +kernel
theorem dX6_allMen_1 : decode cX6_allMen 1 = .ok (.istore_n 1, 1) := by decide +kernel
theorem dX6_allMen_2 : decode cX6_allMen 2 = .ok (.iconst 0, 1) := by decide +kernel
theorem dX6_allMen_3 : decode cX6_allMen 3 = .ok (.istore_n 2, 1) := by decide +kernel
theorem dX6_allMen_4 : decode cX6_allMen 4 = .ok (.iload_n 2, 1) := by decide +kernel
theorem dX6_allMen_5 : decode cX6_allMen 5 = .ok (.aload_n 0, 1) := by decide +kernel
theorem dX6_allMen_6 : decode cX6_allMen 6 = .ok (.getfield 27, 3) := by decide +kernel
theorem dX6_allMen_9 : decode cX6_allMen 9 = .ok (.if_icmp .ge 18, 3) := by decide +kernel
theorem dX6_allMen_12 : decode cX6_allMen 12 = .ok (.iload_n 1, 1) := by decide +kernel
theorem dX6_allMen_13 : decode cX6_allMen 13 = .ok (.aload_n 0, 1) := by decide +kernel
theorem dX6_allMen_14 : decode cX6_allMen 14 = .ok (.getfield 9, 3) := by decide +kernel
theorem dX6_allMen_17 : decode cX6_allMen 17 = .ok (.iload_n 2, 1) := by decide +kernel
theorem dX6_allMen_18 : decode cX6_allMen 18 = .ok (.iaload, 1) := by decide +kernel
theorem dX6_allMen_19 : decode cX6_allMen 19 = .ok (.iadd, 1) := by decide +kernel
theorem dX6_allMen_20 : decode cX6_allMen 20 = .ok (.istore_n 1, 1) := by decide +kernel
theorem dX6_allMen_21 : decode cX6_allMen 21 = .ok (.iinc 2 1, 3) := by decide +kernel
theorem dX6_allMen_24 : decode cX6_allMen 24 = .ok (.goto (-20), 3) := by decide +kernel
theorem dX6_allMen_27 : decode cX6_allMen 27 = .ok (.iload_n 1, 1) := by decide +kernel
theorem dX6_allMen_28 : decode cX6_allMen 28 = .ok (.ireturn, 1) := by decide +kernel
abbrev tl_X6_allMen_0 : List (Nat × oOp) := [(0, o_push (vI 0) 1), (1, o_ist 1 2), (2, o_push (vI 0) 3), (3, o_ist 2 4), (4, o_ild 2 5), (5, o_ald 0 6), (6, o_getI [6] 0 9), (9, o_ic pGe 27 12), (12, o_ild 1 13), (13, o_ald 0 14), (14, o_getR [6] 2 17), (17, o_ild 2 18), (18, o_xald 13 19), (19, o_ib fAdd 20), (20, o_ist 1 21), (21, o_inc 2 1 24), (24, o_go 4), (27, o_ild 1 28), (28, o_reti 0 0)]
set_option maxRecDepth 20000 in
def tb_X6_allMen : Nat → oOp := oTab [(0, o_push (vI 0) 1), (1, o_ist 1 2), (2, o_push (vI 0) 3), (3, o_ist 2 4), (4, o_ild 2 5), (5, o_ald 0 6), (6, o_getI [6] 0 9), (9, o_ic pGe 27 12), (12, o_ild 1 13), (13, o_ald 0 14), (14, o_getR [6] 2 17), (17, o_ild 2 18), (18, o_xald 13 19), (19, o_ib fAdd 20), (20, o_ist 1 21), (21, o_inc 2 1 24), (24, o_go 4), (27, o_ild 1 28), (28, o_reti 0 0)]
def T_X6_allMen : List oA → oM → oQ → Prop := oT tb_X6_allMen 3
set_option maxRecDepth 20000 in
theorem sn_X6_allMen_0 {p : Program} {l : Launch} {e : Env} {s : State} {m : MethodId} {args : Array Value} {below : List Frame} {meth : Method} {c : Code} {D : va_G} {ids : Nat → ClassId} {b : Nat} {Q : oQ} (C : oCx p s m args c cX6_allMen 3 (yX6_allMen).cls D ids b) (hr : meth.sig.returnType = (some .int)) (hlk : meth.locks = false) (hnm : meth.name = (yX6_allMen).name) : ∀ q ∈ tl_X6_allMen_0, oSn (oW p l e (oRm 0 0 0 0) s m args below meth c 3 D ids b (oMQ D ids b below Q args s 0 0)) Q q.1 q.2 := List.forall_mem_cons.mpr ⟨so_iconst C 0 rfl dX6_allMen_0, List.forall_mem_cons.mpr ⟨so_istore_n C 1 rfl (by decide) dX6_allMen_1, List.forall_mem_cons.mpr ⟨so_iconst C 0 rfl dX6_allMen_2, List.forall_mem_cons.mpr ⟨so_istore_n C 2 rfl (by decide) dX6_allMen_3, List.forall_mem_cons.mpr ⟨so_iload_n C 2 rfl dX6_allMen_4, List.forall_mem_cons.mpr ⟨so_aload_n C 0 rfl dX6_allMen_5, List.forall_mem_cons.mpr ⟨so_getI C [6] 0 (fd_RX6_27_6 C) (by decide) dX6_allMen_6, List.forall_mem_cons.mpr ⟨so_ic_ge C (by decide) dX6_allMen_9, List.forall_mem_cons.mpr ⟨so_iload_n C 1 rfl dX6_allMen_12, List.forall_mem_cons.mpr ⟨so_aload_n C 0 rfl dX6_allMen_13, List.forall_mem_cons.mpr ⟨so_getR C [6] 2 (fd_RX6_9_6 C) (ft_6_2) dX6_allMen_14, List.forall_mem_cons.mpr ⟨so_iload_n C 2 rfl dX6_allMen_17, List.forall_mem_cons.mpr ⟨so_iald C dX6_allMen_18, List.forall_mem_cons.mpr ⟨so_iadd C dX6_allMen_19, List.forall_mem_cons.mpr ⟨so_istore_n C 1 rfl (by decide) dX6_allMen_20, List.forall_mem_cons.mpr ⟨so_iinc C 2 1 (by decide) dX6_allMen_21, List.forall_mem_cons.mpr ⟨so_goto C (by decide) dX6_allMen_24, List.forall_mem_cons.mpr ⟨so_iload_n C 1 rfl dX6_allMen_27, List.forall_mem_cons.mpr ⟨so_reti C 0 0 hr hlk dX6_allMen_28, fun _ h => absurd h List.not_mem_nil⟩⟩⟩⟩⟩⟩⟩⟩⟩⟩⟩⟩⟩⟩⟩⟩⟩⟩⟩
set_option maxRecDepth 20000 in
theorem c_X6_allMen (l : Launch) (D : va_G) (ids : Nat → ClassId) : oMT l D ids yX6_allMen cX6_allMen 3 (some .int) 0 0 0 0 T_X6_allMen := oMet l D ids tb_X6_allMen (by decide) (fun p e s m args below meth c b Q C hr hlk hnm => oTab_all (tl_X6_allMen_0) (sn_X6_allMen_0 C hr hlk hnm))
theorem dX2_feed_0 : decode cX2_feed 0 = .ok (.aload_n 0, 1) := by decide +kernel
theorem dX2_feed_1 : decode cX2_feed 1 = .ok (.getfield 28, 3) := by decide +kernel
theorem dX2_feed_4 : decode cX2_feed 4 = .ok (.bipush 20, 2) := by decide +kernel
theorem dX2_feed_6 : decode cX2_feed 6 = .ok (.iconst 1, 1) := by decide +kernel
theorem dX2_feed_7 : decode cX2_feed 7 = .ok (.invokevirtual 32, 3) := by decide +kernel
theorem dX2_feed_10 : decode cX2_feed 10 = .ok (.aload_n 0, 1) := by decide +kernel
theorem dX2_feed_11 : decode cX2_feed 11 = .ok (.aload_n 1, 1) := by decide +kernel
theorem dX2_feed_12 : decode cX2_feed 12 = .ok (.aload_n 2, 1) := by decide +kernel
theorem dX2_feed_13 : decode cX2_feed 13 = .ok (.iload_n 3, 1) := by decide +kernel
theorem dX2_feed_14 : decode cX2_feed 14 = .ok (.iload 4, 2) := by decide +kernel
theorem dX2_feed_16 : decode cX2_feed 16 = .ok (.invokevirtual 36, 3) := by decide +kernel
theorem dX2_feed_19 : decode cX2_feed 19 = .ok (.iconst 0, 1) := by decide +kernel
theorem dX2_feed_20 : decode cX2_feed 20 = .ok (.istore 5, 2) := by decide +kernel
theorem dX2_feed_22 : decode cX2_feed 22 = .ok (.iload 5, 2) := by decide +kernel
theorem dX2_feed_24 : decode cX2_feed 24 = .ok (.aload_n 2, 1) := by decide +kernel
theorem dX2_feed_25 : decode cX2_feed 25 = .ok (.getfield 40, 3) := by decide +kernel
theorem dX2_feed_28 : decode cX2_feed 28 = .ok (.if_icmp .ge 30, 3) := by decide +kernel
theorem dX2_feed_31 : decode cX2_feed 31 = .ok (.aload_n 0, 1) := by decide +kernel
theorem dX2_feed_32 : decode cX2_feed 32 = .ok (.getfield 28, 3) := by decide +kernel
theorem dX2_feed_35 : decode cX2_feed 35 = .ok (.bipush 10, 2) := by decide +kernel
theorem dX2_feed_37 : decode cX2_feed 37 = .ok (.iload 5, 2) := by decide +kernel
theorem dX2_feed_39 : decode cX2_feed 39 = .ok (.iadd, 1) := by decide +kernel
theorem dX2_feed_40 : decode cX2_feed 40 = .ok (.iconst 1, 1) := by decide +kernel
theorem dX2_feed_41 : decode cX2_feed 41 = .ok (.aload_n 2, 1) := by decide +kernel
theorem dX2_feed_42 : decode cX2_feed 42 = .ok (.getfield 46, 3) := by decide +kernel
theorem dX2_feed_45 : decode cX2_feed 45 = .ok (.iload 5, 2) := by decide +kernel
theorem dX2_feed_47 : decode cX2_feed 47 = .ok (.iaload, 1) := by decide +kernel
theorem dX2_feed_48 : decode cX2_feed 48 = .ok (.iconst 0, 1) := by decide +kernel
theorem dX2_feed_49 : decode cX2_feed 49 = .ok (.invokevirtual 49, 3) := by decide +kernel
theorem dX2_feed_52 : decode cX2_feed 52 = .ok (.iinc 5 1, 3) := by decide +kernel
theorem dX2_feed_55 : decode cX2_feed 55 = .ok (.goto (-33), 3) := by decide +kernel
theorem dX2_feed_58 : decode cX2_feed 58 = .ok (.aload_n 0, 1) := by decide +kernel
theorem dX2_feed_59 : decode cX2_feed 59 = .ok (.getfield 28, 3) := by decide +kernel
theorem dX2_feed_62 : decode cX2_feed 62 = .ok (.invokevirtual 53, 3) := by decide +kernel
theorem dX2_feed_65 : decode cX2_feed 65 = .ok (.aload_n 0, 1) := by decide +kernel
theorem dX2_feed_66 : decode cX2_feed 66 = .ok (.aload_n 2, 1) := by decide +kernel
theorem dX2_feed_67 : decode cX2_feed 67 = .ok (.invokevirtual 56, 3) := by decide +kernel
theorem dX2_feed_70 : decode cX2_feed 70 = .ok (.aload_n 0, 1) := by decide +kernel
theorem dX2_feed_71 : decode cX2_feed 71 = .ok (.getfield 28, 3) := by decide +kernel
theorem dX2_feed_74 : decode cX2_feed 74 = .ok (.getfield 60, 3) := by decide +kernel
theorem dX2_feed_77 : decode cX2_feed 77 = .ok (.isub, 1) := by decide +kernel
theorem dX2_feed_78 : decode cX2_feed 78 = .ok (.putfield 63, 3) := by decide +kernel
theorem dX2_feed_81 : decode cX2_feed 81 = .ok (.aload_n 0, 1) := by decide +kernel
theorem dX2_feed_82 : decode cX2_feed 82 = .ok (.aload_n 0, 1) := by decide +kernel
theorem dX2_feed_83 : decode cX2_feed 83 = .ok (.getfield 28, 3) := by decide +kernel
theorem dX2_feed_86 : decode cX2_feed 86 = .ok (.getfield 66, 3) := by decide +kernel
theorem dX2_feed_89 : decode cX2_feed 89 = .ok (.putfield 69, 3) := by decide +kernel
theorem dX2_feed_92 : decode cX2_feed 92 = .ok (.return_, 1) := by decide +kernel
abbrev tl_X2_feed_0 : List (Nat × oOp) := [(0, o_ald 0 1), (1, o_getR [2] 3 4), (4, o_push (vI 20) 6), (6, o_push (vI 1) 7), (7, o_callo T_X7_clear 7 2 0 0 0 0 10), (10, o_ald 0 11), (11, o_ald 1 12), (12, o_ald 2 13), (13, o_ild 3 14), (14, o_ild 4 16), (16, o_callo T_X2_lay 2 4 0 0 0 0 19), (19, o_push (vI 0) 20), (20, o_ist 5 22), (22, o_ild 5 24), (24, o_ald 2 25), (25, o_getI [6] 0 28), (28, o_ic pGe 58 31), (31, o_ald 0 32), (32, o_getR [2] 3 35), (35, o_push (vI 10) 37), (37, o_ild 5 39), (39, o_ib fAdd 40), (40, o_push (vI 1) 41), (41, o_ald 2 42)]
abbrev tl_X2_feed_1 : List (Nat × oOp) := [(42, o_getR [6] 2 45), (45, o_ild 5 47), (47, o_xald 13 48), (48, o_push (vI 0) 49), (49, o_callo T_X7_edge 7 4 0 0 0 0 52), (52, o_inc 5 1 55), (55, o_go 22), (58, o_ald 0 59), (59, o_getR [2] 3 62), (62, o_callo T_X7_fill 7 0 0 0 0 0 65), (65, o_ald 0 66), (66, o_ald 2 67), (67, o_callo T_X6_allMen 6 0 0 0 0 0 70), (70, o_ald 0 71), (71, o_getR [2] 3 74), (74, o_getI [7] 11 77), (77, o_ib fSub 78), (78, o_putI [2] 4 81), (81, o_ald 0 82), (82, o_ald 0 83), (83, o_getR [2] 3 86), (86, o_getI [7] 12 89), (89, o_putI [2] 5 92), (92, o_ret0 0 0)]
set_option maxRecDepth 20000 in
def tb_X2_feed : Nat → oOp := oTab [(0, o_ald 0 1), (1, o_getR [2] 3 4), (4, o_push (vI 20) 6), (6, o_push (vI 1) 7), (7, o_callo T_X7_clear 7 2 0 0 0 0 10), (10, o_ald 0 11), (11, o_ald 1 12), (12, o_ald 2 13), (13, o_ild 3 14), (14, o_ild 4 16), (16, o_callo T_X2_lay 2 4 0 0 0 0 19), (19, o_push (vI 0) 20), (20, o_ist 5 22), (22, o_ild 5 24), (24, o_ald 2 25), (25, o_getI [6] 0 28), (28, o_ic pGe 58 31), (31, o_ald 0 32), (32, o_getR [2] 3 35), (35, o_push (vI 10) 37), (37, o_ild 5 39), (39, o_ib fAdd 40), (40, o_push (vI 1) 41), (41, o_ald 2 42), (42, o_getR [6] 2 45), (45, o_ild 5 47), (47, o_xald 13 48), (48, o_push (vI 0) 49), (49, o_callo T_X7_edge 7 4 0 0 0 0 52), (52, o_inc 5 1 55), (55, o_go 22), (58, o_ald 0 59), (59, o_getR [2] 3 62), (62, o_callo T_X7_fill 7 0 0 0 0 0 65), (65, o_ald 0 66), (66, o_ald 2 67), (67, o_callo T_X6_allMen 6 0 0 0 0 0 70), (70, o_ald 0 71), (71, o_getR [2] 3 74), (74, o_getI [7] 11 77), (77, o_ib fSub 78), (78, o_putI [2] 4 81), (81, o_ald 0 82), (82, o_ald 0 83), (83, o_getR [2] 3 86), (86, o_getI [7] 12 89), (89, o_putI [2] 5 92), (92, o_ret0 0 0)]
def T_X2_feed : List oA → oM → oQ → Prop := oT tb_X2_feed 6
set_option maxRecDepth 20000 in
theorem sn_X2_feed_0 {p : Program} {l : Launch} {e : Env} {s : State} {m : MethodId} {args : Array Value} {below : List Frame} {meth : Method} {c : Code} {D : va_G} {ids : Nat → ClassId} {b : Nat} {Q : oQ} (C : oCx p s m args c cX2_feed 6 (yX2_feed).cls D ids b) (hr : meth.sig.returnType = none) (hlk : meth.locks = false) (hnm : meth.name = (yX2_feed).name) : ∀ q ∈ tl_X2_feed_0, oSn (oW p l e (oRm 3 83 0 0) s m args below meth c 6 D ids b (oMQ D ids b below Q args s 0 0)) Q q.1 q.2 := List.forall_mem_cons.mpr ⟨so_aload_n C 0 rfl dX2_feed_0, List.forall_mem_cons.mpr ⟨so_getR C [2] 3 (fd_RX2_28_2 C) (ft_2_3) dX2_feed_1, List.forall_mem_cons.mpr ⟨so_bipush C 20 rfl dX2_feed_4, List.forall_mem_cons.mpr ⟨so_iconst C 1 rfl dX2_feed_6, List.forall_mem_cons.mpr ⟨so_callV C (y := yX7_clear) 7 2 0 0 (RX7, TX7, 14) (by decide) rfl rfl ⟨Nat.le_refl _, Nat.le_refl _⟩ (c_X7_clear l D ids) kw_588 kw_585 kw_586 kw_587 kw_9 hy_X7_clear ⟨Nat.le_of_ble_eq_true rfl, Nat.le_of_ble_eq_true rfl⟩ dX2_feed_7, List.forall_mem_cons.mpr ⟨so_aload_n C 0 rfl dX2_feed_10, List.forall_mem_cons.mpr ⟨so_aload_n C 1 rfl dX2_feed_11, List.forall_mem_cons.mpr ⟨so_aload_n C 2 rfl dX2_feed_12, List.forall_mem_cons.mpr ⟨so_iload_n C 3 rfl dX2_feed_13, List.forall_mem_cons.mpr ⟨so_iload C 4 dX2_feed_14, List.forall_mem_cons.mpr ⟨so_callV C (y := yX2_lay) 2 4 0 0 (RX2, TX2, 6) (by decide) rfl rfl ⟨Nat.le_refl _, Nat.le_refl _⟩ (c_X2_lay l D ids) kw_594 kw_591 kw_593 kp_13 kw_7 hy_X2_lay ⟨Nat.le_of_ble_eq_true rfl, Nat.le_of_ble_eq_true rfl⟩ dX2_feed_16, List.forall_mem_cons.mpr ⟨so_iconst C 0 rfl dX2_feed_19, List.forall_mem_cons.mpr ⟨so_istore C 5 (by decide) dX2_feed_20, List.forall_mem_cons.mpr ⟨so_iload C 5 dX2_feed_22, List.forall_mem_cons.mpr ⟨so_aload_n C 2 rfl dX2_feed_24, List.forall_mem_cons.mpr ⟨so_getI C [6] 0 (fd_RX2_40_6 C) (by decide) dX2_feed_25, List.forall_mem_cons.mpr ⟨so_ic_ge C (by decide) dX2_feed_28, List.forall_mem_cons.mpr ⟨so_aload_n C 0 rfl dX2_feed_31, List.forall_mem_cons.mpr ⟨so_getR C [2] 3 (fd_RX2_28_2 C) (ft_2_3) dX2_feed_32, List.forall_mem_cons.mpr ⟨so_bipush C 10 rfl dX2_feed_35, List.forall_mem_cons.mpr ⟨so_iload C 5 dX2_feed_37, List.forall_mem_cons.mpr ⟨so_iadd C dX2_feed_39, List.forall_mem_cons.mpr ⟨so_iconst C 1 rfl dX2_feed_40, List.forall_mem_cons.mpr ⟨so_aload_n C 2 rfl dX2_feed_41, fun _ h => absurd h List.not_mem_nil⟩⟩⟩⟩⟩⟩⟩⟩⟩⟩⟩⟩⟩⟩⟩⟩⟩⟩⟩⟩⟩⟩⟩⟩
set_option maxRecDepth 20000 in
theorem sn_X2_feed_1 {p : Program} {l : Launch} {e : Env} {s : State} {m : MethodId} {args : Array Value} {below : List Frame} {meth : Method} {c : Code} {D : va_G} {ids : Nat → ClassId} {b : Nat} {Q : oQ} (C : oCx p s m args c cX2_feed 6 (yX2_feed).cls D ids b) (hr : meth.sig.returnType = none) (hlk : meth.locks = false) (hnm : meth.name = (yX2_feed).name) : ∀ q ∈ tl_X2_feed_1, oSn (oW p l e (oRm 3 83 0 0) s m args below meth c 6 D ids b (oMQ D ids b below Q args s 0 0)) Q q.1 q.2 := List.forall_mem_cons.mpr ⟨so_getR C [6] 2 (fd_RX2_46_6 C) (ft_6_2) dX2_feed_42, List.forall_mem_cons.mpr ⟨so_iload C 5 dX2_feed_45, List.forall_mem_cons.mpr ⟨so_iald C dX2_feed_47, List.forall_mem_cons.mpr ⟨so_iconst C 0 rfl dX2_feed_48, List.forall_mem_cons.mpr ⟨so_callV C (y := yX7_edge) 7 4 0 0 (RX7, TX7, 14) (by decide) rfl rfl ⟨Nat.le_refl _, Nat.le_refl _⟩ (c_X7_edge l D ids) kw_606 kw_603 kw_604 kw_605 kw_9 hy_X7_edge ⟨Nat.le_of_ble_eq_true rfl, Nat.le_of_ble_eq_true rfl⟩ dX2_feed_49, List.forall_mem_cons.mpr ⟨so_iinc C 5 1 (by decide) dX2_feed_52, List.forall_mem_cons.mpr ⟨so_goto C (by decide) dX2_feed_55, List.forall_mem_cons.mpr ⟨so_aload_n C 0 rfl dX2_feed_58, List.forall_mem_cons.mpr ⟨so_getR C [2] 3 (fd_RX2_28_2 C) (ft_2_3) dX2_feed_59, List.forall_mem_cons.mpr ⟨so_callV C (y := yX7_fill) 7 0 0 0 (RX7, TX7, 14) (by decide) rfl rfl ⟨Nat.le_refl _, Nat.le_refl _⟩ (c_X7_fill l D ids) kw_617 kw_614 kw_615 kw_616 kw_9 hy_X7_fill ⟨Nat.le_of_ble_eq_true rfl, Nat.le_of_ble_eq_true rfl⟩ dX2_feed_62, List.forall_mem_cons.mpr ⟨so_aload_n C 0 rfl dX2_feed_65, List.forall_mem_cons.mpr ⟨so_aload_n C 2 rfl dX2_feed_66, List.forall_mem_cons.mpr ⟨so_callV C (y := yX6_allMen) 6 0 0 0 (RX6, TX6, 5) (by decide) rfl rfl ⟨Nat.le_refl _, Nat.le_refl _⟩ (c_X6_allMen l D ids) kw_636 kw_633 kw_634 kw_635 kw_4 hy_X6_allMen ⟨Nat.le_of_ble_eq_true rfl, Nat.le_of_ble_eq_true rfl⟩ dX2_feed_67, List.forall_mem_cons.mpr ⟨so_aload_n C 0 rfl dX2_feed_70, List.forall_mem_cons.mpr ⟨so_getR C [2] 3 (fd_RX2_28_2 C) (ft_2_3) dX2_feed_71, List.forall_mem_cons.mpr ⟨so_getI C [7] 11 (fd_RX2_60_7 C) (by decide) dX2_feed_74, List.forall_mem_cons.mpr ⟨so_isub C dX2_feed_77, List.forall_mem_cons.mpr ⟨so_putI C [2] 4 (fd_RX2_63_2 C) (fn_2_4) (by decide) dX2_feed_78, List.forall_mem_cons.mpr ⟨so_aload_n C 0 rfl dX2_feed_81, List.forall_mem_cons.mpr ⟨so_aload_n C 0 rfl dX2_feed_82, List.forall_mem_cons.mpr ⟨so_getR C [2] 3 (fd_RX2_28_2 C) (ft_2_3) dX2_feed_83, List.forall_mem_cons.mpr ⟨so_getI C [7] 12 (fd_RX2_66_7 C) (by decide) dX2_feed_86, List.forall_mem_cons.mpr ⟨so_putI C [2] 5 (fd_RX2_69_2 C) (fn_2_5) (by decide) dX2_feed_89, List.forall_mem_cons.mpr ⟨so_ret0 C 0 0 hr hlk dX2_feed_92, fun _ h => absurd h List.not_mem_nil⟩⟩⟩⟩⟩⟩⟩⟩⟩⟩⟩⟩⟩⟩⟩⟩⟩⟩⟩⟩⟩⟩⟩⟩
set_option maxRecDepth 20000 in
theorem c_X2_feed (l : Launch) (D : va_G) (ids : Nat → ClassId) : oMT l D ids yX2_feed cX2_feed 6 none 3 83 0 0 T_X2_feed := oMet l D ids tb_X2_feed (by decide) (fun p e s m args below meth c b Q C hr hlk hnm => oTab_all (tl_X2_feed_0 ++ (tl_X2_feed_1)) (List.forall_mem_append.mpr ⟨sn_X2_feed_0 C hr hlk hnm, sn_X2_feed_1 C hr hlk hnm⟩))
theorem dX1_choice_0 : decode cX1_choice 0 = .ok (.bipush 64, 2) := by decide +kernel
theorem dX1_choice_2 : decode cX1_choice 2 = .ok (.istore 4, 2) := by decide +kernel
theorem dX1_choice_4 : decode cX1_choice 4 = .ok (.iconst 0, 1) := by decide +kernel
theorem dX1_choice_5 : decode cX1_choice 5 = .ok (.istore 5, 2) := by decide +kernel
theorem dX1_choice_7 : decode cX1_choice 7 = .ok (.iconst 0, 1) := by decide +kernel
theorem dX1_choice_8 : decode cX1_choice 8 = .ok (.istore 6, 2) := by decide +kernel
theorem dX1_choice_10 : decode cX1_choice 10 = .ok (.iconst 0, 1) := by decide +kernel
theorem dX1_choice_11 : decode cX1_choice 11 = .ok (.istore 7, 2) := by decide +kernel
theorem dX1_choice_13 : decode cX1_choice 13 = .ok (.iload 7, 2) := by decide +kernel
theorem dX1_choice_15 : decode cX1_choice 15 = .ok (.aload_n 2, 1) := by decide +kernel
theorem dX1_choice_16 : decode cX1_choice 16 = .ok (.getfield 19, 3) := by decide +kernel
theorem dX1_choice_19 : decode cX1_choice 19 = .ok (.if_icmp .ge 164, 3) := by decide +kernel
theorem dX1_choice_22 : decode cX1_choice 22 = .ok (.aload_n 0, 1) := by decide +kernel
theorem dX1_choice_23 : decode cX1_choice 23 = .ok (.getfield 25, 3) := by decide +kernel
theorem dX1_choice_26 : decode cX1_choice 26 = .ok (.iconst 1, 1) := by decide +kernel
theorem dX1_choice_27 : decode cX1_choice 27 = .ok (.if_icmp .ne 8, 3) := by decide +kernel
theorem dX1_choice_30 : decode cX1_choice 30 = .ok (.iload 7, 2) := by decide +kernel
theorem dX1_choice_32 : decode cX1_choice 32 = .ok (.goto 9, 3) := by decide +kernel
theorem dX1_choice_35 : decode cX1_choice 35 = .ok (.aload_n 2, 1) := by decide +kernel
theorem dX1_choice_36 : decode cX1_choice 36 = .ok (.getfield 19, 3) := by decide +kernel
theorem dX1_choice_39 : decode cX1_choice 39 = .ok (.iconst 1, 1) := by decide +kernel
theorem dX1_choice_40 : decode cX1_choice 40 = .ok (.isub, 1) := by decide +kernel
theorem dX1_choice_41 : decode cX1_choice 41 = .ok (.istore 8, 2) := by decide +kernel
theorem dX1_choice_43 : decode cX1_choice 43 = .ok (.iload 7, 2) := by decide +kernel
theorem dX1_choice_45 : decode cX1_choice 45 = .ok (.istore 9, 2) := by decide +kernel
theorem dX1_choice_47 : decode cX1_choice 47 = .ok (.iload 9, 2) := by decide +kernel
theorem dX1_choice_49 : decode cX1_choice 49 = .ok (.iload 8, 2) := by decide +kernel
theorem dX1_choice_51 : decode cX1_choice 51 = .ok (.if_icmp .gt 126, 3) := by decide +kernel
theorem dX1_choice_54 : decode cX1_choice 54 = .ok (.aload_n 2, 1) := by decide +kernel
theorem dX1_choice_55 : decode cX1_choice 55 = .ok (.getfield 28, 3) := by decide +kernel
theorem dX1_choice_58 : decode cX1_choice 58 = .ok (.iload 7, 2) := by decide +kernel
theorem dX1_choice_60 : decode cX1_choice 60 = .ok (.iaload, 1) := by decide +kernel
theorem dX1_choice_61 : decode cX1_choice 61 = .ok (.ifCond .eq 110, 3) := by decide +kernel
theorem dX1_choice_64 : decode cX1_choice 64 = .ok (.aload_n 2, 1) := by decide +kernel
theorem dX1_choice_65 : decode cX1_choice 65 = .ok (.getfield 28, 3) := by decide +kernel
theorem dX1_choice_68 : decode cX1_choice 68 = .ok (.iload 9, 2) := by decide +kernel
theorem dX1_choice_70 : decode cX1_choice 70 = .ok (.iaload, 1) := by decide +kernel
theorem dX1_choice_71 : decode cX1_choice 71 = .ok (.ifCond .ne 6, 3) := by decide +kernel
theorem dX1_choice_74 : decode cX1_choice 74 = .ok (.goto 97, 3) := by decide +kernel
theorem dX1_choice_77 : decode cX1_choice 77 = .ok (.aload_n 0, 1) := by decide +kernel
theorem dX1_choice_78 : decode cX1_choice 78 = .ok (.aload_n 1, 1) := by decide +kernel
theorem dX1_choice_79 : decode cX1_choice 79 = .ok (.aload_n 2, 1) := by decide +kernel
theorem dX1_choice_80 : decode cX1_choice 80 = .ok (.aload_n 3, 1) := by decide +kernel
theorem dX1_choice_81 : decode cX1_choice 81 = .ok (.bipush 8, 2) := by decide +kernel
theorem dX1_choice_83 : decode cX1_choice 83 = .ok (.iload 7, 2) := by decide +kernel
theorem dX1_choice_85 : decode cX1_choice 85 = .ok (.imul, 1) := by decide +kernel
theorem dX1_choice_86 : decode cX1_choice 86 = .ok (.iload 9, 2) := by decide +kernel
theorem dX1_choice_88 : decode cX1_choice 88 = .ok (.iadd, 1) := by decide +kernel
theorem dX1_choice_89 : decode cX1_choice 89 = .ok (.invokevirtual 15, 3) := by decide +kernel
theorem dX1_choice_92 : decode cX1_choice 92 = .ok (.aload_n 1, 1) := by decide +kernel
theorem dX1_choice_93 : decode cX1_choice 93 = .ok (.aload_n 2, 1) := by decide +kernel
theorem dX1_choice_94 : decode cX1_choice 94 = .ok (.aload_n 3, 1) := by decide +kernel
theorem dX1_choice_95 : decode cX1_choice 95 = .ok (.aload_n 3, 1) := by decide +kernel
theorem dX1_choice_96 : decode cX1_choice 96 = .ok (.invokevirtual 32, 3) := by decide +kernel
theorem dX1_choice_99 : decode cX1_choice 99 = .ok (.iconst 0, 1) := by decide +kernel
theorem dX1_choice_100 : decode cX1_choice 100 = .ok (.invokevirtual 38, 3) := by decide +kernel
theorem dX1_choice_103 : decode cX1_choice 103 = .ok (.aload_n 1, 1) := by decide +kernel
theorem dX1_choice_104 : decode cX1_choice 104 = .ok (.getfield 44, 3) := by decide +kernel
theorem dX1_choice_107 : decode cX1_choice 107 = .ok (.iload 5, 2) := by decide +kernel
theorem dX1_choice_109 : decode cX1_choice 109 = .ok (.if_icmp .lt 21, 3) := by decide +kernel
theorem dX1_choice_112 : decode cX1_choice 112 = .ok (.aload_n 1, 1) := by decide +kernel
theorem dX1_choice_113 : decode cX1_choice 113 = .ok (.getfield 44, 3) := by decide +kernel
theorem dX1_choice_116 : decode cX1_choice 116 = .ok (.iload 5, 2) := by decide +kernel
theorem dX1_choice_118 : decode cX1_choice 118 = .ok (.if_icmp .ne 16, 3) := by decide +kernel
theorem dX1_choice_121 : decode cX1_choice 121 = .ok (.aload_n 1, 1) := by decide +kernel
theorem dX1_choice_122 : decode cX1_choice 122 = .ok (.getfield 47, 3) := by decide +kernel
theorem dX1_choice_125 : decode cX1_choice 125 = .ok (.iload 6, 2) := by decide +kernel
theorem dX1_choice_127 : decode cX1_choice 127 = .ok (.if_icmp .ge 7, 3) := by decide +kernel
theorem dX1_choice_130 : decode cX1_choice 130 = .ok (.iconst 1, 1) := by decide +kernel
theorem dX1_choice_131 : decode cX1_choice 131 = .ok (.goto 4, 3) := by decide +kernel
theorem dX1_choice_134 : decode cX1_choice 134 = .ok (.iconst 0, 1) := by decide +kernel
theorem dX1_choice_135 : decode cX1_choice 135 = .ok (.istore 10, 2) := by decide +kernel
theorem dX1_choice_137 : decode cX1_choice 137 = .ok (.iload 4, 2) := by decide +kernel
theorem dX1_choice_139 : decode cX1_choice 139 = .ok (.bipush 64, 2) := by decide +kernel
theorem dX1_choice_141 : decode cX1_choice 141 = .ok (.if_icmp .eq 8, 3) := by decide +kernel
theorem dX1_choice_144 : decode cX1_choice 144 = .ok (.iload 10, 2) := by decide +kernel
theorem dX1_choice_146 : decode cX1_choice 146 = .ok (.ifCond .eq 25, 3) := by decide +kernel
theorem dX1_choice_149 : decode cX1_choice 149 = .ok (.bipush 8, 2) := by decide +kernel
theorem dX1_choice_151 : decode cX1_choice 151 = .ok (.iload 7, 2) := by decide +kernel
theorem dX1_choice_153 : decode cX1_choice 153 = .ok (.imul, 1) := by decide +kernel
theorem dX1_choice_154 : decode cX1_choice 154 = .ok (.iload 9, 2) := by decide +kernel
theorem dX1_choice_156 : decode cX1_choice 156 = .ok (.iadd, 1) := by decide +kernel
theorem dX1_choice_157 : decode cX1_choice 157 = .ok (.istore 4, 2) := by decide +kernel
theorem dX1_choice_159 : decode cX1_choice 159 = .ok (.aload_n 1, 1) := by decide +kernel
theorem dX1_choice_160 : decode cX1_choice 160 = .ok (.getfield 44, 3) := by decide +kernel
theorem dX1_choice_163 : decode cX1_choice 163 = .ok (.istore 5, 2) := by decide +kernel
theorem dX1_choice_165 : decode cX1_choice 165 = .ok (.aload_n 1, 1) := by decide +kernel
theorem dX1_choice_166 : decode cX1_choice 166 = .ok (.getfield 47, 3) := by decide +kernel
theorem dX1_choice_169 : decode cX1_choice 169 = .ok (.istore 6, 2) := by decide +kernel
theorem dX1_choice_171 : decode cX1_choice 171 = .ok (.iinc 9 1, 3) := by decide +kernel
theorem dX1_choice_174 : decode cX1_choice 174 = .ok (.goto (-127), 3) := by decide +kernel
theorem dX1_choice_177 : decode cX1_choice 177 = .ok (.iinc 7 1, 3) := by decide +kernel
theorem dX1_choice_180 : decode cX1_choice 180 = .ok (.goto (-167), 3) := by decide +kernel
theorem dX1_choice_183 : decode cX1_choice 183 = .ok (.iload 4, 2) := by decide +kernel
theorem dX1_choice_185 : decode cX1_choice 185 = .ok (.ireturn, 1) := by decide +kernel
abbrev tl_X1_choice_0 : List (Nat × oOp) := [(0, o_push (vI 64) 2), (2, o_ist 4 4), (4, o_push (vI 0) 5), (5, o_ist 5 7), (7, o_push (vI 0) 8), (8, o_ist 6 10), (10, o_push (vI 0) 11), (11, o_ist 7 13), (13, o_ild 7 15), (15, o_ald 2 16), (16, o_getI [4] 0 19), (19, o_ic pGe 183 22), (22, o_ald 0 23), (23, o_getI [1] 0 26), (26, o_push (vI 1) 27), (27, o_ic pNe 35 30), (30, o_ild 7 32), (32, o_go 41), (35, o_ald 2 36), (36, o_getI [4] 0 39), (39, o_push (vI 1) 40), (40, o_ib fSub 41), (41, o_ist 8 43), (43, o_ild 7 45)]
abbrev tl_X1_choice_1 : List (Nat × oOp) := [(45, o_ist 9 47), (47, o_ild 9 49), (49, o_ild 8 51), (51, o_ic pGt 177 54), (54, o_ald 2 55), (55, o_getR [4] 2 58), (58, o_ild 7 60), (60, o_xald 13 61), (61, o_if zEq 171 64), (64, o_ald 2 65), (65, o_getR [4] 2 68), (68, o_ild 9 70), (70, o_xald 13 71), (71, o_if zNe 77 74), (74, o_go 171), (77, o_ald 0 78), (78, o_ald 1 79), (79, o_ald 2 80), (80, o_ald 3 81), (81, o_push (vI 8) 83), (83, o_ild 7 85), (85, o_ib fMul 86), (86, o_ild 9 88), (88, o_ib fAdd 89)]
abbrev tl_X1_choice_2 : List (Nat × oOp) := [(89, o_callo T_X1_settle 1 4 0 0 0 0 92), (92, o_ald 1 93), (93, o_ald 2 94), (94, o_ald 3 95), (95, o_ald 3 96), (96, o_callo T_X6_wayOn 6 0 0 0 0 0 99), (99, o_push (vI 0) 100), (100, o_callo T_X2_feed 2 4 0 0 0 0 103), (103, o_ald 1 104), (104, o_getI [2] 4 107), (107, o_ild 5 109), (109, o_ic pLt 130 112), (112, o_ald 1 113), (113, o_getI [2] 4 116), (116, o_ild 5 118), (118, o_ic pNe 134 121), (121, o_ald 1 122), (122, o_getI [2] 5 125), (125, o_ild 6 127), (127, o_ic pGe 134 130), (130, o_push (vI 1) 131), (131, o_go 135), (134, o_push (vI 0) 135), (135, o_ist 10 137)]
abbrev tl_X1_choice_3 : List (Nat × oOp) := [(137, o_ild 4 139), (139, o_push (vI 64) 141), (141, o_ic pEq 149 144), (144, o_ild 10 146), (146, o_if zEq 171 149), (149, o_push (vI 8) 151), (151, o_ild 7 153), (153, o_ib fMul 154), (154, o_ild 9 156), (156, o_ib fAdd 157), (157, o_ist 4 159), (159, o_ald 1 160), (160, o_getI [2] 4 163), (163, o_ist 5 165), (165, o_ald 1 166), (166, o_getI [2] 5 169), (169, o_ist 6 171), (171, o_inc 9 1 174), (174, o_go 47), (177, o_inc 7 1 180), (180, o_go 13), (183, o_ild 4 185), (185, o_reti 0 0)]
set_option maxRecDepth 20000 in
def tb_X1_choice : Nat → oOp := oTab [(0, o_push (vI 64) 2), (2, o_ist 4 4), (4, o_push (vI 0) 5), (5, o_ist 5 7), (7, o_push (vI 0) 8), (8, o_ist 6 10), (10, o_push (vI 0) 11), (11, o_ist 7 13), (13, o_ild 7 15), (15, o_ald 2 16), (16, o_getI [4] 0 19), (19, o_ic pGe 183 22), (22, o_ald 0 23), (23, o_getI [1] 0 26), (26, o_push (vI 1) 27), (27, o_ic pNe 35 30), (30, o_ild 7 32), (32, o_go 41), (35, o_ald 2 36), (36, o_getI [4] 0 39), (39, o_push (vI 1) 40), (40, o_ib fSub 41), (41, o_ist 8 43), (43, o_ild 7 45), (45, o_ist 9 47), (47, o_ild 9 49), (49, o_ild 8 51), (51, o_ic pGt 177 54), (54, o_ald 2 55), (55, o_getR [4] 2 58), (58, o_ild 7 60), (60, o_xald 13 61), (61, o_if zEq 171 64), (64, o_ald 2 65), (65, o_getR [4] 2 68), (68, o_ild 9 70), (70, o_xald 13 71), (71, o_if zNe 77 74), (74, o_go 171), (77, o_ald 0 78), (78, o_ald 1 79), (79, o_ald 2 80), (80, o_ald 3 81), (81, o_push (vI 8) 83), (83, o_ild 7 85), (85, o_ib fMul 86), (86, o_ild 9 88), (88, o_ib fAdd 89), (89, o_callo T_X1_settle 1 4 0 0 0 0 92), (92, o_ald 1 93), (93, o_ald 2 94), (94, o_ald 3 95), (95, o_ald 3 96), (96, o_callo T_X6_wayOn 6 0 0 0 0 0 99), (99, o_push (vI 0) 100), (100, o_callo T_X2_feed 2 4 0 0 0 0 103), (103, o_ald 1 104), (104, o_getI [2] 4 107), (107, o_ild 5 109), (109, o_ic pLt 130 112), (112, o_ald 1 113), (113, o_getI [2] 4 116), (116, o_ild 5 118), (118, o_ic pNe 134 121), (121, o_ald 1 122), (122, o_getI [2] 5 125), (125, o_ild 6 127), (127, o_ic pGe 134 130), (130, o_push (vI 1) 131), (131, o_go 135), (134, o_push (vI 0) 135), (135, o_ist 10 137), (137, o_ild 4 139), (139, o_push (vI 64) 141), (141, o_ic pEq 149 144), (144, o_ild 10 146), (146, o_if zEq 171 149), (149, o_push (vI 8) 151), (151, o_ild 7 153), (153, o_ib fMul 154), (154, o_ild 9 156), (156, o_ib fAdd 157), (157, o_ist 4 159), (159, o_ald 1 160), (160, o_getI [2] 4 163), (163, o_ist 5 165), (165, o_ald 1 166), (166, o_getI [2] 5 169), (169, o_ist 6 171), (171, o_inc 9 1 174), (174, o_go 47), (177, o_inc 7 1 180), (180, o_go 13), (183, o_ild 4 185), (185, o_reti 0 0)]
def T_X1_choice : List oA → oM → oQ → Prop := oT tb_X1_choice 11
set_option maxRecDepth 20000 in
theorem sn_X1_choice_0 {p : Program} {l : Launch} {e : Env} {s : State} {m : MethodId} {args : Array Value} {below : List Frame} {meth : Method} {c : Code} {D : va_G} {ids : Nat → ClassId} {b : Nat} {Q : oQ} (C : oCx p s m args c cX1_choice 11 (yX1_choice).cls D ids b) (hr : meth.sig.returnType = (some .int)) (hlk : meth.locks = false) (hnm : meth.name = (yX1_choice).name) : ∀ q ∈ tl_X1_choice_0, oSn (oW p l e (oRm 4 108 0 0) s m args below meth c 11 D ids b (oMQ D ids b below Q args s 0 0)) Q q.1 q.2 := List.forall_mem_cons.mpr ⟨so_bipush C 64 rfl dX1_choice_0, List.forall_mem_cons.mpr ⟨so_istore C 4 (by decide) dX1_choice_2, List.forall_mem_cons.mpr ⟨so_iconst C 0 rfl dX1_choice_4, List.forall_mem_cons.mpr ⟨so_istore C 5 (by decide) dX1_choice_5, List.forall_mem_cons.mpr ⟨so_iconst C 0 rfl dX1_choice_7, List.forall_mem_cons.mpr ⟨so_istore C 6 (by decide) dX1_choice_8, List.forall_mem_cons.mpr ⟨so_iconst C 0 rfl dX1_choice_10, List.forall_mem_cons.mpr ⟨so_istore C 7 (by decide) dX1_choice_11, List.forall_mem_cons.mpr ⟨so_iload C 7 dX1_choice_13, List.forall_mem_cons.mpr ⟨so_aload_n C 2 rfl dX1_choice_15, List.forall_mem_cons.mpr ⟨so_getI C [4] 0 (fd_RX1_19_4 C) (by decide) dX1_choice_16, List.forall_mem_cons.mpr ⟨so_ic_ge C (by decide) dX1_choice_19, List.forall_mem_cons.mpr ⟨so_aload_n C 0 rfl dX1_choice_22, List.forall_mem_cons.mpr ⟨so_getI C [1] 0 (fd_RX1_25_1 C) (by decide) dX1_choice_23, List.forall_mem_cons.mpr ⟨so_iconst C 1 rfl dX1_choice_26, List.forall_mem_cons.mpr ⟨so_ic_ne C (by decide) dX1_choice_27, List.forall_mem_cons.mpr ⟨so_iload C 7 dX1_choice_30, List.forall_mem_cons.mpr ⟨so_goto C (by decide) dX1_choice_32, List.forall_mem_cons.mpr ⟨so_aload_n C 2 rfl dX1_choice_35, List.forall_mem_cons.mpr ⟨so_getI C [4] 0 (fd_RX1_19_4 C) (by decide) dX1_choice_36, List.forall_mem_cons.mpr ⟨so_iconst C 1 rfl dX1_choice_39, List.forall_mem_cons.mpr ⟨so_isub C dX1_choice_40, List.forall_mem_cons.mpr ⟨so_istore C 8 (by decide) dX1_choice_41, List.forall_mem_cons.mpr ⟨so_iload C 7 dX1_choice_43, fun _ h => absurd h List.not_mem_nil⟩⟩⟩⟩⟩⟩⟩⟩⟩⟩⟩⟩⟩⟩⟩⟩⟩⟩⟩⟩⟩⟩⟩⟩
set_option maxRecDepth 20000 in
theorem sn_X1_choice_1 {p : Program} {l : Launch} {e : Env} {s : State} {m : MethodId} {args : Array Value} {below : List Frame} {meth : Method} {c : Code} {D : va_G} {ids : Nat → ClassId} {b : Nat} {Q : oQ} (C : oCx p s m args c cX1_choice 11 (yX1_choice).cls D ids b) (hr : meth.sig.returnType = (some .int)) (hlk : meth.locks = false) (hnm : meth.name = (yX1_choice).name) : ∀ q ∈ tl_X1_choice_1, oSn (oW p l e (oRm 4 108 0 0) s m args below meth c 11 D ids b (oMQ D ids b below Q args s 0 0)) Q q.1 q.2 := List.forall_mem_cons.mpr ⟨so_istore C 9 (by decide) dX1_choice_45, List.forall_mem_cons.mpr ⟨so_iload C 9 dX1_choice_47, List.forall_mem_cons.mpr ⟨so_iload C 8 dX1_choice_49, List.forall_mem_cons.mpr ⟨so_ic_gt C (by decide) dX1_choice_51, List.forall_mem_cons.mpr ⟨so_aload_n C 2 rfl dX1_choice_54, List.forall_mem_cons.mpr ⟨so_getR C [4] 2 (fd_RX1_28_4 C) (ft_4_2) dX1_choice_55, List.forall_mem_cons.mpr ⟨so_iload C 7 dX1_choice_58, List.forall_mem_cons.mpr ⟨so_iald C dX1_choice_60, List.forall_mem_cons.mpr ⟨so_if_eq C (by decide) dX1_choice_61, List.forall_mem_cons.mpr ⟨so_aload_n C 2 rfl dX1_choice_64, List.forall_mem_cons.mpr ⟨so_getR C [4] 2 (fd_RX1_28_4 C) (ft_4_2) dX1_choice_65, List.forall_mem_cons.mpr ⟨so_iload C 9 dX1_choice_68, List.forall_mem_cons.mpr ⟨so_iald C dX1_choice_70, List.forall_mem_cons.mpr ⟨so_if_ne C (by decide) dX1_choice_71, List.forall_mem_cons.mpr ⟨so_goto C (by decide) dX1_choice_74, List.forall_mem_cons.mpr ⟨so_aload_n C 0 rfl dX1_choice_77, List.forall_mem_cons.mpr ⟨so_aload_n C 1 rfl dX1_choice_78, List.forall_mem_cons.mpr ⟨so_aload_n C 2 rfl dX1_choice_79, List.forall_mem_cons.mpr ⟨so_aload_n C 3 rfl dX1_choice_80, List.forall_mem_cons.mpr ⟨so_bipush C 8 rfl dX1_choice_81, List.forall_mem_cons.mpr ⟨so_iload C 7 dX1_choice_83, List.forall_mem_cons.mpr ⟨so_imul C dX1_choice_85, List.forall_mem_cons.mpr ⟨so_iload C 9 dX1_choice_86, List.forall_mem_cons.mpr ⟨so_iadd C dX1_choice_88, fun _ h => absurd h List.not_mem_nil⟩⟩⟩⟩⟩⟩⟩⟩⟩⟩⟩⟩⟩⟩⟩⟩⟩⟩⟩⟩⟩⟩⟩⟩
set_option maxRecDepth 20000 in
theorem sn_X1_choice_2 {p : Program} {l : Launch} {e : Env} {s : State} {m : MethodId} {args : Array Value} {below : List Frame} {meth : Method} {c : Code} {D : va_G} {ids : Nat → ClassId} {b : Nat} {Q : oQ} (C : oCx p s m args c cX1_choice 11 (yX1_choice).cls D ids b) (hr : meth.sig.returnType = (some .int)) (hlk : meth.locks = false) (hnm : meth.name = (yX1_choice).name) : ∀ q ∈ tl_X1_choice_2, oSn (oW p l e (oRm 4 108 0 0) s m args below meth c 11 D ids b (oMQ D ids b below Q args s 0 0)) Q q.1 q.2 := List.forall_mem_cons.mpr ⟨so_callV C (y := yX1_settle) 1 4 0 0 (RX1, TX1, 2) (by decide) rfl rfl ⟨Nat.le_refl _, Nat.le_refl _⟩ (c_X1_settle l D ids) kw_569 kw_566 kw_567 kw_568 kw_16 hy_X1_settle ⟨Nat.le_of_ble_eq_true rfl, Nat.le_of_ble_eq_true rfl⟩ dX1_choice_89, List.forall_mem_cons.mpr ⟨so_aload_n C 1 rfl dX1_choice_92, List.forall_mem_cons.mpr ⟨so_aload_n C 2 rfl dX1_choice_93, List.forall_mem_cons.mpr ⟨so_aload_n C 3 rfl dX1_choice_94, List.forall_mem_cons.mpr ⟨so_aload_n C 3 rfl dX1_choice_95, List.forall_mem_cons.mpr ⟨so_callV C (y := yX6_wayOn) 6 0 0 0 (RX6, TX6, 5) (by decide) rfl rfl ⟨Nat.le_refl _, Nat.le_refl _⟩ (c_X6_wayOn l D ids) kw_542 kw_580 kw_540 kw_541 kw_4 hy_X6_wayOn ⟨Nat.le_of_ble_eq_true rfl, Nat.le_of_ble_eq_true rfl⟩ dX1_choice_96, List.forall_mem_cons.mpr ⟨so_iconst C 0 rfl dX1_choice_99, List.forall_mem_cons.mpr ⟨so_callV C (y := yX2_feed) 2 4 0 0 (RX2, TX2, 6) (by decide) rfl rfl ⟨Nat.le_refl _, Nat.le_refl _⟩ (c_X2_feed l D ids) kw_584 kw_581 kw_582 kw_583 kw_7 hy_X2_feed ⟨Nat.le_of_ble_eq_true rfl, Nat.le_of_ble_eq_true rfl⟩ dX1_choice_100, List.forall_mem_cons.mpr ⟨so_aload_n C 1 rfl dX1_choice_103, List.forall_mem_cons.mpr ⟨so_getI C [2] 4 (fd_RX1_44_2 C) (by decide) dX1_choice_104, List.forall_mem_cons.mpr ⟨so_iload C 5 dX1_choice_107, List.forall_mem_cons.mpr ⟨so_ic_lt C (by decide) dX1_choice_109, List.forall_mem_cons.mpr ⟨so_aload_n C 1 rfl dX1_choice_112, List.forall_mem_cons.mpr ⟨so_getI C [2] 4 (fd_RX1_44_2 C) (by decide) dX1_choice_113, List.forall_mem_cons.mpr ⟨so_iload C 5 dX1_choice_116, List.forall_mem_cons.mpr ⟨so_ic_ne C (by decide) dX1_choice_118, List.forall_mem_cons.mpr ⟨so_aload_n C 1 rfl dX1_choice_121, List.forall_mem_cons.mpr ⟨so_getI C [2] 5 (fd_RX1_47_2 C) (by decide) dX1_choice_122, List.forall_mem_cons.mpr ⟨so_iload C 6 dX1_choice_125, List.forall_mem_cons.mpr ⟨so_ic_ge C (by decide) dX1_choice_127, List.forall_mem_cons.mpr ⟨so_iconst C 1 rfl dX1_choice_130, List.forall_mem_cons.mpr ⟨so_goto C (by decide) dX1_choice_131, List.forall_mem_cons.mpr ⟨so_iconst C 0 rfl dX1_choice_134, List.forall_mem_cons.mpr ⟨so_istore C 10 (by decide) dX1_choice_135, fun _ h => absurd h List.not_mem_nil⟩⟩⟩⟩⟩⟩⟩⟩⟩⟩⟩⟩⟩⟩⟩⟩⟩⟩⟩⟩⟩⟩⟩⟩
set_option maxRecDepth 20000 in
theorem sn_X1_choice_3 {p : Program} {l : Launch} {e : Env} {s : State} {m : MethodId} {args : Array Value} {below : List Frame} {meth : Method} {c : Code} {D : va_G} {ids : Nat → ClassId} {b : Nat} {Q : oQ} (C : oCx p s m args c cX1_choice 11 (yX1_choice).cls D ids b) (hr : meth.sig.returnType = (some .int)) (hlk : meth.locks = false) (hnm : meth.name = (yX1_choice).name) : ∀ q ∈ tl_X1_choice_3, oSn (oW p l e (oRm 4 108 0 0) s m args below meth c 11 D ids b (oMQ D ids b below Q args s 0 0)) Q q.1 q.2 := List.forall_mem_cons.mpr ⟨so_iload C 4 dX1_choice_137, List.forall_mem_cons.mpr ⟨so_bipush C 64 rfl dX1_choice_139, List.forall_mem_cons.mpr ⟨so_ic_eq C (by decide) dX1_choice_141, List.forall_mem_cons.mpr ⟨so_iload C 10 dX1_choice_144, List.forall_mem_cons.mpr ⟨so_if_eq C (by decide) dX1_choice_146, List.forall_mem_cons.mpr ⟨so_bipush C 8 rfl dX1_choice_149, List.forall_mem_cons.mpr ⟨so_iload C 7 dX1_choice_151, List.forall_mem_cons.mpr ⟨so_imul C dX1_choice_153, List.forall_mem_cons.mpr ⟨so_iload C 9 dX1_choice_154, List.forall_mem_cons.mpr ⟨so_iadd C dX1_choice_156, List.forall_mem_cons.mpr ⟨so_istore C 4 (by decide) dX1_choice_157, List.forall_mem_cons.mpr ⟨so_aload_n C 1 rfl dX1_choice_159, List.forall_mem_cons.mpr ⟨so_getI C [2] 4 (fd_RX1_44_2 C) (by decide) dX1_choice_160, List.forall_mem_cons.mpr ⟨so_istore C 5 (by decide) dX1_choice_163, List.forall_mem_cons.mpr ⟨so_aload_n C 1 rfl dX1_choice_165, List.forall_mem_cons.mpr ⟨so_getI C [2] 5 (fd_RX1_47_2 C) (by decide) dX1_choice_166, List.forall_mem_cons.mpr ⟨so_istore C 6 (by decide) dX1_choice_169, List.forall_mem_cons.mpr ⟨so_iinc C 9 1 (by decide) dX1_choice_171, List.forall_mem_cons.mpr ⟨so_goto C (by decide) dX1_choice_174, List.forall_mem_cons.mpr ⟨so_iinc C 7 1 (by decide) dX1_choice_177, List.forall_mem_cons.mpr ⟨so_goto C (by decide) dX1_choice_180, List.forall_mem_cons.mpr ⟨so_iload C 4 dX1_choice_183, List.forall_mem_cons.mpr ⟨so_reti C 0 0 hr hlk dX1_choice_185, fun _ h => absurd h List.not_mem_nil⟩⟩⟩⟩⟩⟩⟩⟩⟩⟩⟩⟩⟩⟩⟩⟩⟩⟩⟩⟩⟩⟩⟩
set_option maxRecDepth 20000 in
theorem c_X1_choice (l : Launch) (D : va_G) (ids : Nat → ClassId) : oMT l D ids yX1_choice cX1_choice 11 (some .int) 4 108 0 0 T_X1_choice := oMet l D ids tb_X1_choice (by decide) (fun p e s m args below meth c b Q C hr hlk hnm => oTab_all (tl_X1_choice_0 ++ (tl_X1_choice_1 ++ (tl_X1_choice_2 ++ (tl_X1_choice_3)))) (List.forall_mem_append.mpr ⟨sn_X1_choice_0 C hr hlk hnm, List.forall_mem_append.mpr ⟨sn_X1_choice_1 C hr hlk hnm, List.forall_mem_append.mpr ⟨sn_X1_choice_2 C hr hlk hnm, sn_X1_choice_3 C hr hlk hnm⟩⟩⟩))
theorem dX1_pitch_0 : decode cX1_pitch 0 = .ok (.aload_n 0, 1) := by decide +kernel
theorem dX1_pitch_1 : decode cX1_pitch 1 = .ok (.aload_n 1, 1) := by decide +kernel
theorem dX1_pitch_2 : decode cX1_pitch 2 = .ok (.aload_n 2, 1) := by decide +kernel
theorem dX1_pitch_3 : decode cX1_pitch 3 = .ok (.aload_n 3, 1) := by decide +kernel
theorem dX1_pitch_4 : decode cX1_pitch 4 = .ok (.aload_n 0, 1) := by decide +kernel
theorem dX1_pitch_5 : decode cX1_pitch 5 = .ok (.aload_n 1, 1) := by decide +kernel
theorem dX1_pitch_6 : decode cX1_pitch 6 = .ok (.aload_n 2, 1) := by decide +kernel
theorem dX1_pitch_7 : decode cX1_pitch 7 = .ok (.aload_n 3, 1) := by decide +kernel
theorem dX1_pitch_8 : decode cX1_pitch 8 = .ok (.invokevirtual 9, 3) := by decide +kernel
theorem dX1_pitch_11 : decode cX1_pitch 11 = .ok (.invokevirtual 15, 3) := by decide +kernel
theorem dX1_pitch_14 : decode cX1_pitch 14 = .ok (.return_, 1) := by decide +kernel
abbrev tl_X1_pitch_0 : List (Nat × oOp) := [(0, o_ald 0 1), (1, o_ald 1 2), (2, o_ald 2 3), (3, o_ald 3 4), (4, o_ald 0 5), (5, o_ald 1 6), (6, o_ald 2 7), (7, o_ald 3 8), (8, o_callo T_X1_choice 1 3 0 0 0 0 11), (11, o_callo T_X1_settle 1 4 0 0 0 0 14), (14, o_ret0 0 0)]
set_option maxRecDepth 20000 in
def tb_X1_pitch : Nat → oOp := oTab [(0, o_ald 0 1), (1, o_ald 1 2), (2, o_ald 2 3), (3, o_ald 3 4), (4, o_ald 0 5), (5, o_ald 1 6), (6, o_ald 2 7), (7, o_ald 3 8), (8, o_callo T_X1_choice 1 3 0 0 0 0 11), (11, o_callo T_X1_settle 1 4 0 0 0 0 14), (14, o_ret0 0 0)]
def T_X1_pitch : List oA → oM → oQ → Prop := oT tb_X1_pitch 5
set_option maxRecDepth 20000 in
theorem sn_X1_pitch_0 {p : Program} {l : Launch} {e : Env} {s : State} {m : MethodId} {args : Array Value} {below : List Frame} {meth : Method} {c : Code} {D : va_G} {ids : Nat → ClassId} {b : Nat} {Q : oQ} (C : oCx p s m args c cX1_pitch 5 (yX1_pitch).cls D ids b) (hr : meth.sig.returnType = none) (hlk : meth.locks = false) (hnm : meth.name = (yX1_pitch).name) : ∀ q ∈ tl_X1_pitch_0, oSn (oW p l e (oRm 5 138 0 0) s m args below meth c 5 D ids b (oMQ D ids b below Q args s 0 0)) Q q.1 q.2 := List.forall_mem_cons.mpr ⟨so_aload_n C 0 rfl dX1_pitch_0, List.forall_mem_cons.mpr ⟨so_aload_n C 1 rfl dX1_pitch_1, List.forall_mem_cons.mpr ⟨so_aload_n C 2 rfl dX1_pitch_2, List.forall_mem_cons.mpr ⟨so_aload_n C 3 rfl dX1_pitch_3, List.forall_mem_cons.mpr ⟨so_aload_n C 0 rfl dX1_pitch_4, List.forall_mem_cons.mpr ⟨so_aload_n C 1 rfl dX1_pitch_5, List.forall_mem_cons.mpr ⟨so_aload_n C 2 rfl dX1_pitch_6, List.forall_mem_cons.mpr ⟨so_aload_n C 3 rfl dX1_pitch_7, List.forall_mem_cons.mpr ⟨so_callV C (y := yX1_choice) 1 3 0 0 (RX1, TX1, 2) (by decide) rfl rfl ⟨Nat.le_refl _, Nat.le_refl _⟩ (c_X1_choice l D ids) kw_565 kw_645 kw_563 kw_564 kw_16 hy_X1_choice ⟨Nat.le_of_ble_eq_true rfl, Nat.le_of_ble_eq_true rfl⟩ dX1_pitch_8, List.forall_mem_cons.mpr ⟨so_callV C (y := yX1_settle) 1 4 0 0 (RX1, TX1, 2) (by decide) rfl rfl ⟨Nat.le_refl _, Nat.le_refl _⟩ (c_X1_settle l D ids) kw_569 kw_566 kw_567 kw_568 kw_16 hy_X1_settle ⟨Nat.le_of_ble_eq_true rfl, Nat.le_of_ble_eq_true rfl⟩ dX1_pitch_11, List.forall_mem_cons.mpr ⟨so_ret0 C 0 0 hr hlk dX1_pitch_14, fun _ h => absurd h List.not_mem_nil⟩⟩⟩⟩⟩⟩⟩⟩⟩⟩⟩
set_option maxRecDepth 20000 in
theorem c_X1_pitch (l : Launch) (D : va_G) (ids : Nat → ClassId) : oMT l D ids yX1_pitch cX1_pitch 5 none 5 138 0 0 T_X1_pitch := oMet l D ids tb_X1_pitch (by decide) (fun p e s m args below meth c b Q C hr hlk hnm => oTab_all (tl_X1_pitch_0) (sn_X1_pitch_0 C hr hlk hnm))
theorem dX3_dayLookedAt_0 : decode cX3_dayLookedAt 0 = .ok (.iload_n 1, 1) := by decide +kernel
theorem dX3_dayLookedAt_1 : decode cX3_dayLookedAt 1 = .ok (.ireturn, 1) := by decide +kernel
abbrev tl_X3_dayLookedAt_0 : List (Nat × oOp) := [(0, o_ild 1 1), (1, o_reti 0 0)]
set_option maxRecDepth 20000 in
def tb_X3_dayLookedAt : Nat → oOp := oTab [(0, o_ild 1 1), (1, o_reti 0 0)]
def T_X3_dayLookedAt : List oA → oM → oQ → Prop := oT tb_X3_dayLookedAt 3
set_option maxRecDepth 20000 in
theorem sn_X3_dayLookedAt_0 {p : Program} {l : Launch} {e : Env} {s : State} {m : MethodId} {args : Array Value} {below : List Frame} {meth : Method} {c : Code} {D : va_G} {ids : Nat → ClassId} {b : Nat} {Q : oQ} (C : oCx p s m args c cX3_dayLookedAt 3 (yX3_dayLookedAt).cls D ids b) (hr : meth.sig.returnType = (some .int)) (hlk : meth.locks = false) (hnm : meth.name = (yX3_dayLookedAt).name) : ∀ q ∈ tl_X3_dayLookedAt_0, oSn (oW p l e (oRm 0 0 0 0) s m args below meth c 3 D ids b (oMQ D ids b below Q args s 0 0)) Q q.1 q.2 := List.forall_mem_cons.mpr ⟨so_iload_n C 1 rfl dX3_dayLookedAt_0, List.forall_mem_cons.mpr ⟨so_reti C 0 0 hr hlk dX3_dayLookedAt_1, fun _ h => absurd h List.not_mem_nil⟩⟩
set_option maxRecDepth 20000 in
theorem c_X3_dayLookedAt (l : Launch) (D : va_G) (ids : Nat → ClassId) : oMT l D ids yX3_dayLookedAt cX3_dayLookedAt 3 (some .int) 0 0 0 0 T_X3_dayLookedAt := oMet l D ids tb_X3_dayLookedAt (by decide) (fun p e s m args below meth c b Q C hr hlk hnm => oTab_all (tl_X3_dayLookedAt_0) (sn_X3_dayLookedAt_0 C hr hlk hnm))
theorem dX5_dayLookedAt_0 : decode cX5_dayLookedAt 0 = .ok (.iload_n 1, 1) := by decide +kernel
theorem dX5_dayLookedAt_1 : decode cX5_dayLookedAt 1 = .ok (.aload_n 0, 1) := by decide +kernel
theorem dX5_dayLookedAt_2 : decode cX5_dayLookedAt 2 = .ok (.getfield 7, 3) := by decide +kernel
theorem dX5_dayLookedAt_5 : decode cX5_dayLookedAt 5 = .ok (.iadd, 1) := by decide +kernel
theorem dX5_dayLookedAt_6 : decode cX5_dayLookedAt 6 = .ok (.aload_n 2, 1) := by decide +kernel
theorem dX5_dayLookedAt_7 : decode cX5_dayLookedAt 7 = .ok (.getfield 13, 3) := by decide +kernel
theorem dX5_dayLookedAt_10 : decode cX5_dayLookedAt 10 = .ok (.iconst 1, 1) := by decide +kernel
theorem dX5_dayLookedAt_11 : decode cX5_dayLookedAt 11 = .ok (.isub, 1) := by decide +kernel
theorem dX5_dayLookedAt_12 : decode cX5_dayLookedAt 12 = .ok (.invokestatic 18, 3) := by decide +kernel
theorem dX5_dayLookedAt_15 : decode cX5_dayLookedAt 15 = .ok (.ireturn, 1) := by decide +kernel
abbrev tl_X5_dayLookedAt_0 : List (Nat × oOp) := [(0, o_ild 1 1), (1, o_ald 0 2), (2, o_getI [5] 1 5), (5, o_ib fAdd 6), (6, o_ald 2 7), (7, o_getI [6] 0 10), (10, o_push (vI 1) 11), (11, o_ib fSub 12), (12, o_math2 fMin 0 0 15), (15, o_reti 0 0)]
set_option maxRecDepth 20000 in
def tb_X5_dayLookedAt : Nat → oOp := oTab [(0, o_ild 1 1), (1, o_ald 0 2), (2, o_getI [5] 1 5), (5, o_ib fAdd 6), (6, o_ald 2 7), (7, o_getI [6] 0 10), (10, o_push (vI 1) 11), (11, o_ib fSub 12), (12, o_math2 fMin 0 0 15), (15, o_reti 0 0)]
def T_X5_dayLookedAt : List oA → oM → oQ → Prop := oT tb_X5_dayLookedAt 3
set_option maxRecDepth 20000 in
theorem sn_X5_dayLookedAt_0 {p : Program} {l : Launch} {e : Env} {s : State} {m : MethodId} {args : Array Value} {below : List Frame} {meth : Method} {c : Code} {D : va_G} {ids : Nat → ClassId} {b : Nat} {Q : oQ} (C : oCx p s m args c cX5_dayLookedAt 3 (yX5_dayLookedAt).cls D ids b) (hr : meth.sig.returnType = (some .int)) (hlk : meth.locks = false) (hnm : meth.name = (yX5_dayLookedAt).name) : ∀ q ∈ tl_X5_dayLookedAt_0, oSn (oW p l e (oRm 1 21 0 0) s m args below meth c 3 D ids b (oMQ D ids b below Q args s 0 0)) Q q.1 q.2 := List.forall_mem_cons.mpr ⟨so_iload_n C 1 rfl dX5_dayLookedAt_0, List.forall_mem_cons.mpr ⟨so_aload_n C 0 rfl dX5_dayLookedAt_1, List.forall_mem_cons.mpr ⟨so_getI C [5] 1 (fd_RX5_7_5 C) (by decide) dX5_dayLookedAt_2, List.forall_mem_cons.mpr ⟨so_iadd C dX5_dayLookedAt_5, List.forall_mem_cons.mpr ⟨so_aload_n C 2 rfl dX5_dayLookedAt_6, List.forall_mem_cons.mpr ⟨so_getI C [6] 0 (fd_RX5_13_6 C) (by decide) dX5_dayLookedAt_7, List.forall_mem_cons.mpr ⟨so_iconst C 1 rfl dX5_dayLookedAt_10, List.forall_mem_cons.mpr ⟨so_isub C dX5_dayLookedAt_11, List.forall_mem_cons.mpr ⟨so_min C 0 0 ⟨Nat.le_refl _, Nat.le_refl _⟩ kw_658 kw_417 kw_12 kw_418 (by decide) (by decide) dX5_dayLookedAt_12, List.forall_mem_cons.mpr ⟨so_reti C 0 0 hr hlk dX5_dayLookedAt_15, fun _ h => absurd h List.not_mem_nil⟩⟩⟩⟩⟩⟩⟩⟩⟩⟩
set_option maxRecDepth 20000 in
theorem c_X5_dayLookedAt (l : Launch) (D : va_G) (ids : Nat → ClassId) : oMT l D ids yX5_dayLookedAt cX5_dayLookedAt 3 (some .int) 1 21 0 0 T_X5_dayLookedAt := oMet l D ids tb_X5_dayLookedAt (by decide) (fun p e s m args below meth c b Q C hr hlk hnm => oTab_all (tl_X5_dayLookedAt_0) (sn_X5_dayLookedAt_0 C hr hlk hnm))
theorem dX4_lastWood_0 : decode cX4_lastWood 0 = .ok (.iload_n 1, 1) := by decide +kernel
theorem dX4_lastWood_1 : decode cX4_lastWood 1 = .ok (.aload_n 0, 1) := by decide +kernel
theorem dX4_lastWood_2 : decode cX4_lastWood 2 = .ok (.getfield 18, 3) := by decide +kernel
theorem dX4_lastWood_5 : decode cX4_lastWood 5 = .ok (.iconst 1, 1) := by decide +kernel
theorem dX4_lastWood_6 : decode cX4_lastWood 6 = .ok (.isub, 1) := by decide +kernel
theorem dX4_lastWood_7 : decode cX4_lastWood 7 = .ok (.invokestatic 78, 3) := by decide +kernel
theorem dX4_lastWood_10 : decode cX4_lastWood 10 = .ok (.istore_n 2, 1) := by decide +kernel
theorem dX4_lastWood_11 : decode cX4_lastWood 11 = .ok (.iload_n 2, 1) := by decide +kernel
theorem dX4_lastWood_12 : decode cX4_lastWood 12 = .ok (.ifCond .lt 21, 3) := by decide +kernel
theorem dX4_lastWood_15 : decode cX4_lastWood 15 = .ok (.aload_n 0, 1) := by decide +kernel
theorem dX4_lastWood_16 : decode cX4_lastWood 16 = .ok (.getfield 15, 3) := by decide +kernel
theorem dX4_lastWood_19 : decode cX4_lastWood 19 = .ok (.iload_n 2, 1) := by decide +kernel
theorem dX4_lastWood_20 : decode cX4_lastWood 20 = .ok (.iaload, 1) := by decide +kernel
theorem dX4_lastWood_21 : decode cX4_lastWood 21 = .ok (.iconst 1, 1) := by decide +kernel
theorem dX4_lastWood_22 : decode cX4_lastWood 22 = .ok (.if_icmp .ne 5, 3) := by decide +kernel
theorem dX4_lastWood_25 : decode cX4_lastWood 25 = .ok (.iload_n 2, 1) := by decide +kernel
theorem dX4_lastWood_26 : decode cX4_lastWood 26 = .ok (.ireturn, 1) := by decide +kernel
theorem dX4_lastWood_27 : decode cX4_lastWood 27 = .ok (.iinc 2 (-1), 3) := by decide +kernel
theorem dX4_lastWood_30 : decode cX4_lastWood 30 = .ok (.goto (-19), 3) := by decide +kernel
theorem dX4_lastWood_33 : decode cX4_lastWood 33 = .ok (.iconst (-1), 1) := by decide +kernel
theorem dX4_lastWood_34 : decode cX4_lastWood 34 = .ok (.ireturn, 1) := by decide +kernel
abbrev tl_X4_lastWood_0 : List (Nat × oOp) := [(0, o_ild 1 1), (1, o_ald 0 2), (2, o_getI [4] 0 5), (5, o_push (vI 1) 6), (6, o_ib fSub 7), (7, o_math2 fMin 0 0 10), (10, o_ist 2 11), (11, o_ild 2 12), (12, o_if zLt 33 15), (15, o_ald 0 16), (16, o_getR [4] 2 19), (19, o_ild 2 20), (20, o_xald 13 21), (21, o_push (vI 1) 22), (22, o_ic pNe 27 25), (25, o_ild 2 26), (26, o_reti 0 0), (27, o_inc 2 (-1) 30), (30, o_go 11), (33, o_push (vI (-1)) 34), (34, o_reti 0 0)]
set_option maxRecDepth 20000 in
def tb_X4_lastWood : Nat → oOp := oTab [(0, o_ild 1 1), (1, o_ald 0 2), (2, o_getI [4] 0 5), (5, o_push (vI 1) 6), (6, o_ib fSub 7), (7, o_math2 fMin 0 0 10), (10, o_ist 2 11), (11, o_ild 2 12), (12, o_if zLt 33 15), (15, o_ald 0 16), (16, o_getR [4] 2 19), (19, o_ild 2 20), (20, o_xald 13 21), (21, o_push (vI 1) 22), (22, o_ic pNe 27 25), (25, o_ild 2 26), (26, o_reti 0 0), (27, o_inc 2 (-1) 30), (30, o_go 11), (33, o_push (vI (-1)) 34), (34, o_reti 0 0)]
def T_X4_lastWood : List oA → oM → oQ → Prop := oT tb_X4_lastWood 3
set_option maxRecDepth 20000 in
theorem sn_X4_lastWood_0 {p : Program} {l : Launch} {e : Env} {s : State} {m : MethodId} {args : Array Value} {below : List Frame} {meth : Method} {c : Code} {D : va_G} {ids : Nat → ClassId} {b : Nat} {Q : oQ} (C : oCx p s m args c cX4_lastWood 3 (yX4_lastWood).cls D ids b) (hr : meth.sig.returnType = (some .int)) (hlk : meth.locks = false) (hnm : meth.name = (yX4_lastWood).name) : ∀ q ∈ tl_X4_lastWood_0, oSn (oW p l e (oRm 1 21 0 0) s m args below meth c 3 D ids b (oMQ D ids b below Q args s 0 0)) Q q.1 q.2 := List.forall_mem_cons.mpr ⟨so_iload_n C 1 rfl dX4_lastWood_0, List.forall_mem_cons.mpr ⟨so_aload_n C 0 rfl dX4_lastWood_1, List.forall_mem_cons.mpr ⟨so_getI C [4] 0 (fd_RX4_18_4 C) (by decide) dX4_lastWood_2, List.forall_mem_cons.mpr ⟨so_iconst C 1 rfl dX4_lastWood_5, List.forall_mem_cons.mpr ⟨so_isub C dX4_lastWood_6, List.forall_mem_cons.mpr ⟨so_min C 0 0 ⟨Nat.le_refl _, Nat.le_refl _⟩ kw_664 kw_417 kw_12 kw_418 (by decide) (by decide) dX4_lastWood_7, List.forall_mem_cons.mpr ⟨so_istore_n C 2 rfl (by decide) dX4_lastWood_10, List.forall_mem_cons.mpr ⟨so_iload_n C 2 rfl dX4_lastWood_11, List.forall_mem_cons.mpr ⟨so_if_lt C (by decide) dX4_lastWood_12, List.forall_mem_cons.mpr ⟨so_aload_n C 0 rfl dX4_lastWood_15, List.forall_mem_cons.mpr ⟨so_getR C [4] 2 (fd_RX4_15_4 C) (ft_4_2) dX4_lastWood_16, List.forall_mem_cons.mpr ⟨so_iload_n C 2 rfl dX4_lastWood_19, List.forall_mem_cons.mpr ⟨so_iald C dX4_lastWood_20, List.forall_mem_cons.mpr ⟨so_iconst C 1 rfl dX4_lastWood_21, List.forall_mem_cons.mpr ⟨so_ic_ne C (by decide) dX4_lastWood_22, List.forall_mem_cons.mpr ⟨so_iload_n C 2 rfl dX4_lastWood_25, List.forall_mem_cons.mpr ⟨so_reti C 0 0 hr hlk dX4_lastWood_26, List.forall_mem_cons.mpr ⟨so_iinc C 2 (-1) (by decide) dX4_lastWood_27, List.forall_mem_cons.mpr ⟨so_goto C (by decide) dX4_lastWood_30, List.forall_mem_cons.mpr ⟨so_iconst C (-1) rfl dX4_lastWood_33, List.forall_mem_cons.mpr ⟨so_reti C 0 0 hr hlk dX4_lastWood_34, fun _ h => absurd h List.not_mem_nil⟩⟩⟩⟩⟩⟩⟩⟩⟩⟩⟩⟩⟩⟩⟩⟩⟩⟩⟩⟩⟩
set_option maxRecDepth 20000 in
theorem c_X4_lastWood (l : Launch) (D : va_G) (ids : Nat → ClassId) : oMT l D ids yX4_lastWood cX4_lastWood 3 (some .int) 1 21 0 0 T_X4_lastWood := oMet l D ids tb_X4_lastWood (by decide) (fun p e s m args below meth c b Q C hr hlk hnm => oTab_all (tl_X4_lastWood_0) (sn_X4_lastWood_0 C hr hlk hnm))
theorem dX3_pitch_0 : decode cX3_pitch 0 = .ok (.aload_n 1, 1) := by decide +kernel
theorem dX3_pitch_1 : decode cX3_pitch 1 = .ok (.getfield 9, 3) := by decide +kernel
theorem dX3_pitch_4 : decode cX3_pitch 4 = .ok (.iconst 0, 1) := by decide +kernel
theorem dX3_pitch_5 : decode cX3_pitch 5 = .ok (.putfield 15, 3) := by decide +kernel
theorem dX3_pitch_8 : decode cX3_pitch 8 = .ok (.aload_n 3, 1) := by decide +kernel
theorem dX3_pitch_9 : decode cX3_pitch 9 = .ok (.aload_n 2, 1) := by decide +kernel
theorem dX3_pitch_10 : decode cX3_pitch 10 = .ok (.getfield 21, 3) := by decide +kernel
theorem dX3_pitch_13 : decode cX3_pitch 13 = .ok (.aload_n 3, 1) := by decide +kernel
theorem dX3_pitch_14 : decode cX3_pitch 14 = .ok (.invokevirtual 26, 3) := by decide +kernel
theorem dX3_pitch_17 : decode cX3_pitch 17 = .ok (.aload_n 1, 1) := by decide +kernel
theorem dX3_pitch_18 : decode cX3_pitch 18 = .ok (.getfield 32, 3) := by decide +kernel
theorem dX3_pitch_21 : decode cX3_pitch 21 = .ok (.invokevirtual 36, 3) := by decide +kernel
theorem dX3_pitch_24 : decode cX3_pitch 24 = .ok (.iconst 0, 1) := by decide +kernel
theorem dX3_pitch_25 : decode cX3_pitch 25 = .ok (.istore 5, 2) := by decide +kernel
theorem dX3_pitch_27 : decode cX3_pitch 27 = .ok (.iconst (-1), 1) := by decide +kernel
theorem dX3_pitch_28 : decode cX3_pitch 28 = .ok (.istore 6, 2) := by decide +kernel
theorem dX3_pitch_30 : decode cX3_pitch 30 = .ok (.iconst 0, 1) := by decide +kernel
theorem dX3_pitch_31 : decode cX3_pitch 31 = .ok (.istore 7, 2) := by decide +kernel
theorem dX3_pitch_33 : decode cX3_pitch 33 = .ok (.iload 7, 2) := by decide +kernel
theorem dX3_pitch_35 : decode cX3_pitch 35 = .ok (.bipush 10, 2) := by decide +kernel
theorem dX3_pitch_37 : decode cX3_pitch 37 = .ok (.if_icmp .ge 122, 3) := by decide +kernel
theorem dX3_pitch_40 : decode cX3_pitch 40 = .ok (.iload 5, 2) := by decide +kernel
theorem dX3_pitch_42 : decode cX3_pitch 42 = .ok (.aload_n 3, 1) := by decide +kernel
theorem dX3_pitch_43 : decode cX3_pitch 43 = .ok (.getfield 40, 3) := by decide +kernel
theorem dX3_pitch_46 : decode cX3_pitch 46 = .ok (.if_icmp .ge 113, 3) := by decide +kernel
theorem dX3_pitch_49 : decode cX3_pitch 49 = .ok (.aload_n 2, 1) := by decide +kernel
theorem dX3_pitch_50 : decode cX3_pitch 50 = .ok (.aload_n 1, 1) := by decide +kernel
theorem dX3_pitch_51 : decode cX3_pitch 51 = .ok (.getfield 32, 3) := by decide +kernel
theorem dX3_pitch_54 : decode cX3_pitch 54 = .ok (.aload_n 0, 1) := by decide +kernel
theorem dX3_pitch_55 : decode cX3_pitch 55 = .ok (.iload 5, 2) := by decide +kernel
theorem dX3_pitch_57 : decode cX3_pitch 57 = .ok (.aload_n 3, 1) := by decide +kernel
theorem dX3_pitch_58 : decode cX3_pitch 58 = .ok (.invokevirtual 43, 3) := by decide +kernel
theorem dX3_pitch_61 : decode cX3_pitch 61 = .ok (.iaload, 1) := by decide +kernel
theorem dX3_pitch_62 : decode cX3_pitch 62 = .ok (.invokevirtual 49, 3) := by decide +kernel
theorem dX3_pitch_65 : decode cX3_pitch 65 = .ok (.istore 8, 2) := by decide +kernel
theorem dX3_pitch_67 : decode cX3_pitch 67 = .ok (.iload 8, 2) := by decide +kernel
theorem dX3_pitch_69 : decode cX3_pitch 69 = .ok (.iconst (-1), 1) := by decide +kernel
theorem dX3_pitch_70 : decode cX3_pitch 70 = .ok (.if_icmp .ne 9, 3) := by decide +kernel
theorem dX3_pitch_73 : decode cX3_pitch 73 = .ok (.iinc 5 1, 3) := by decide +kernel
theorem dX3_pitch_76 : decode cX3_pitch 76 = .ok (.goto 77, 3) := by decide +kernel
theorem dX3_pitch_79 : decode cX3_pitch 79 = .ok (.iload 5, 2) := by decide +kernel
theorem dX3_pitch_81 : decode cX3_pitch 81 = .ok (.iload 6, 2) := by decide +kernel
theorem dX3_pitch_83 : decode cX3_pitch 83 = .ok (.iconst (-1), 1) := by decide +kernel
theorem dX3_pitch_84 : decode cX3_pitch 84 = .ok (.if_icmp .ne 7, 3) := by decide +kernel
theorem dX3_pitch_87 : decode cX3_pitch 87 = .ok (.iconst 0, 1) := by decide +kernel
theorem dX3_pitch_88 : decode cX3_pitch 88 = .ok (.goto 11, 3) := by decide +kernel
theorem dX3_pitch_91 : decode cX3_pitch 91 = .ok (.iload 8, 2) := by decide +kernel
theorem dX3_pitch_93 : decode cX3_pitch 93 = .ok (.iload 6, 2) := by decide +kernel
theorem dX3_pitch_95 : decode cX3_pitch 95 = .ok (.isub, 1) := by decide +kernel
theorem dX3_pitch_96 : decode cX3_pitch 96 = .ok (.invokestatic 53, 3) := by decide +kernel
theorem dX3_pitch_99 : decode cX3_pitch 99 = .ok (.iadd, 1) := by decide +kernel
theorem dX3_pitch_100 : decode cX3_pitch 100 = .ok (.istore 5, 2) := by decide +kernel
theorem dX3_pitch_102 : decode cX3_pitch 102 = .ok (.iconst 0, 1) := by decide +kernel
theorem dX3_pitch_103 : decode cX3_pitch 103 = .ok (.istore 9, 2) := by decide +kernel
theorem dX3_pitch_105 : decode cX3_pitch 105 = .ok (.iload 9, 2) := by decide +kernel
theorem dX3_pitch_107 : decode cX3_pitch 107 = .ok (.iload 4, 2) := by decide +kernel
theorem dX3_pitch_109 : decode cX3_pitch 109 = .ok (.if_icmp .ge 31, 3) := by decide +kernel
theorem dX3_pitch_112 : decode cX3_pitch 112 = .ok (.aload_n 1, 1) := by decide +kernel
theorem dX3_pitch_113 : decode cX3_pitch 113 = .ok (.getfield 9, 3) := by decide +kernel
theorem dX3_pitch_116 : decode cX3_pitch 116 = .ok (.aload_n 2, 1) := by decide +kernel
theorem dX3_pitch_117 : decode cX3_pitch 117 = .ok (.aload_n 3, 1) := by decide +kernel
theorem dX3_pitch_118 : decode cX3_pitch 118 = .ok (.iload 8, 2) := by decide +kernel
theorem dX3_pitch_120 : decode cX3_pitch 120 = .ok (.iload 5, 2) := by decide +kernel
theorem dX3_pitch_122 : decode cX3_pitch 122 = .ok (.iload 5, 2) := by decide +kernel
theorem dX3_pitch_124 : decode cX3_pitch 124 = .ok (.aload_n 0, 1) := by decide +kernel
theorem dX3_pitch_125 : decode cX3_pitch 125 = .ok (.getfield 58, 3) := by decide +kernel
theorem dX3_pitch_128 : decode cX3_pitch 128 = .ok (.iadd, 1) := by decide +kernel
theorem dX3_pitch_129 : decode cX3_pitch 129 = .ok (.iconst 1, 1) := by decide +kernel
theorem dX3_pitch_130 : decode cX3_pitch 130 = .ok (.isub, 1) := by decide +kernel
theorem dX3_pitch_131 : decode cX3_pitch 131 = .ok (.invokevirtual 61, 3) := by decide +kernel
theorem dX3_pitch_134 : decode cX3_pitch 134 = .ok (.iinc 9 1, 3) := by decide +kernel
theorem dX3_pitch_137 : decode cX3_pitch 137 = .ok (.goto (-32), 3) := by decide +kernel
theorem dX3_pitch_140 : decode cX3_pitch 140 = .ok (.iload 8, 2) := by decide +kernel
theorem dX3_pitch_142 : decode cX3_pitch 142 = .ok (.istore 6, 2) := by decide +kernel
theorem dX3_pitch_144 : decode cX3_pitch 144 = .ok (.iload 5, 2) := by decide +kernel
theorem dX3_pitch_146 : decode cX3_pitch 146 = .ok (.aload_n 0, 1) := by decide +kernel
theorem dX3_pitch_147 : decode cX3_pitch 147 = .ok (.getfield 58, 3) := by decide +kernel
theorem dX3_pitch_150 : decode cX3_pitch 150 = .ok (.iadd, 1) := by decide +kernel
theorem dX3_pitch_151 : decode cX3_pitch 151 = .ok (.istore 5, 2) := by decide +kernel
theorem dX3_pitch_153 : decode cX3_pitch 153 = .ok (.iinc 7 1, 3) := by decide +kernel
theorem dX3_pitch_156 : decode cX3_pitch 156 = .ok (.goto (-123), 3) := by decide +kernel
theorem dX3_pitch_159 : decode cX3_pitch 159 = .ok (.return_, 1) := by decide +kernel
abbrev tl_X3_pitch_0 : List (Nat × oOp) := [(0, o_ald 1 1), (1, o_getR [2] 0 4), (4, o_push (vI 0) 5), (5, o_putI [9] 3 8), (8, o_ald 3 9), (9, o_ald 2 10), (10, o_getI [4] 0 13), (13, o_ald 3 14), (14, o_callo T_X6_wayOn 6 0 0 0 0 0 17), (17, o_ald 1 18), (18, o_getR [2] 1 21), (21, o_callo T_X6_walk 6 3 0 0 0 0 24), (24, o_push (vI 0) 25), (25, o_ist 5 27), (27, o_push (vI (-1)) 28), (28, o_ist 6 30), (30, o_push (vI 0) 31), (31, o_ist 7 33), (33, o_ild 7 35), (35, o_push (vI 10) 37), (37, o_ic pGe 159 40), (40, o_ild 5 42), (42, o_ald 3 43), (43, o_getI [6] 0 46)]
abbrev tl_X3_pitch_1 : List (Nat × oOp) := [(46, o_ic pGe 159 49), (49, o_ald 2 50), (50, o_ald 1 51), (51, o_getR [2] 1 54), (54, o_ald 0 55), (55, o_ild 5 57), (57, o_ald 3 58), (58, o_callV [(3, T_X3_dayLookedAt), (5, T_X5_dayLookedAt)] 2 0 0 61), (61, o_xald 13 62), (62, o_callo T_X4_lastWood 4 1 0 0 0 0 65), (65, o_ist 8 67), (67, o_ild 8 69), (69, o_push (vI (-1)) 70), (70, o_ic pNe 79 73), (73, o_inc 5 1 76), (76, o_go 153), (79, o_ild 5 81), (81, o_ild 6 83), (83, o_push (vI (-1)) 84), (84, o_ic pNe 91 87), (87, o_push (vI 0) 88), (88, o_go 99), (91, o_ild 8 93), (93, o_ild 6 95)]
abbrev tl_X3_pitch_2 : List (Nat × oOp) := [(95, o_ib fSub 96), (96, o_math1 fAbs 0 0 99), (99, o_ib fAdd 100), (100, o_ist 5 102), (102, o_push (vI 0) 103), (103, o_ist 9 105), (105, o_ild 9 107), (107, o_ild 4 109), (109, o_ic pGe 140 112), (112, o_ald 1 113), (113, o_getR [2] 0 116), (116, o_ald 2 117), (117, o_ald 3 118), (118, o_ild 8 120), (120, o_ild 5 122), (122, o_ild 5 124), (124, o_ald 0 125), (125, o_getI [3, 5] 1 128), (128, o_ib fAdd 129), (129, o_push (vI 1) 130), (130, o_ib fSub 131), (131, o_callo T_X9_add 9 5 0 0 0 0 134), (134, o_inc 9 1 137), (137, o_go 105)]
abbrev tl_X3_pitch_3 : List (Nat × oOp) := [(140, o_ild 8 142), (142, o_ist 6 144), (144, o_ild 5 146), (146, o_ald 0 147), (147, o_getI [3, 5] 1 150), (150, o_ib fAdd 151), (151, o_ist 5 153), (153, o_inc 7 1 156), (156, o_go 33), (159, o_ret0 0 0)]
set_option maxRecDepth 20000 in
def tb_X3_pitch : Nat → oOp := oTab [(0, o_ald 1 1), (1, o_getR [2] 0 4), (4, o_push (vI 0) 5), (5, o_putI [9] 3 8), (8, o_ald 3 9), (9, o_ald 2 10), (10, o_getI [4] 0 13), (13, o_ald 3 14), (14, o_callo T_X6_wayOn 6 0 0 0 0 0 17), (17, o_ald 1 18), (18, o_getR [2] 1 21), (21, o_callo T_X6_walk 6 3 0 0 0 0 24), (24, o_push (vI 0) 25), (25, o_ist 5 27), (27, o_push (vI (-1)) 28), (28, o_ist 6 30), (30, o_push (vI 0) 31), (31, o_ist 7 33), (33, o_ild 7 35), (35, o_push (vI 10) 37), (37, o_ic pGe 159 40), (40, o_ild 5 42), (42, o_ald 3 43), (43, o_getI [6] 0 46), (46, o_ic pGe 159 49), (49, o_ald 2 50), (50, o_ald 1 51), (51, o_getR [2] 1 54), (54, o_ald 0 55), (55, o_ild 5 57), (57, o_ald 3 58), (58, o_callV [(3, T_X3_dayLookedAt), (5, T_X5_dayLookedAt)] 2 0 0 61), (61, o_xald 13 62), (62, o_callo T_X4_lastWood 4 1 0 0 0 0 65), (65, o_ist 8 67), (67, o_ild 8 69), (69, o_push (vI (-1)) 70), (70, o_ic pNe 79 73), (73, o_inc 5 1 76), (76, o_go 153), (79, o_ild 5 81), (81, o_ild 6 83), (83, o_push (vI (-1)) 84), (84, o_ic pNe 91 87), (87, o_push (vI 0) 88), (88, o_go 99), (91, o_ild 8 93), (93, o_ild 6 95), (95, o_ib fSub 96), (96, o_math1 fAbs 0 0 99), (99, o_ib fAdd 100), (100, o_ist 5 102), (102, o_push (vI 0) 103), (103, o_ist 9 105), (105, o_ild 9 107), (107, o_ild 4 109), (109, o_ic pGe 140 112), (112, o_ald 1 113), (113, o_getR [2] 0 116), (116, o_ald 2 117), (117, o_ald 3 118), (118, o_ild 8 120), (120, o_ild 5 122), (122, o_ild 5 124), (124, o_ald 0 125), (125, o_getI [3, 5] 1 128), (128, o_ib fAdd 129), (129, o_push (vI 1) 130), (130, o_ib fSub 131), (131, o_callo T_X9_add 9 5 0 0 0 0 134), (134, o_inc 9 1 137), (137, o_go 105), (140, o_ild 8 142), (142, o_ist 6 144), (144, o_ild 5 146), (146, o_ald 0 147), (147, o_getI [3, 5] 1 150), (150, o_ib fAdd 151), (151, o_ist 5 153), (153, o_inc 7 1 156), (156, o_go 33), (159, o_ret0 0 0)]
def T_X3_pitch : List oA → oM → oQ → Prop := oT tb_X3_pitch 10
set_option maxRecDepth 20000 in
theorem sn_X3_pitch_0 {p : Program} {l : Launch} {e : Env} {s : State} {m : MethodId} {args : Array Value} {below : List Frame} {meth : Method} {c : Code} {D : va_G} {ids : Nat → ClassId} {b : Nat} {Q : oQ} (C : oCx p s m args c cX3_pitch 10 (yX3_pitch).cls D ids b) (hr : meth.sig.returnType = none) (hlk : meth.locks = false) (hnm : meth.name = (yX3_pitch).name) : ∀ q ∈ tl_X3_pitch_0, oSn (oW p l e (oRm 2 51 0 0) s m args below meth c 10 D ids b (oMQ D ids b below Q args s 0 0)) Q q.1 q.2 := List.forall_mem_cons.mpr ⟨so_aload_n C 1 rfl dX3_pitch_0, List.forall_mem_cons.mpr ⟨so_getR C [2] 0 (fd_RX3_9_2 C) (ft_2_0) dX3_pitch_1, List.forall_mem_cons.mpr ⟨so_iconst C 0 rfl dX3_pitch_4, List.forall_mem_cons.mpr ⟨so_putI C [9] 3 (fd_RX3_15_9 C) (fn_9_3) (by decide) dX3_pitch_5, List.forall_mem_cons.mpr ⟨so_aload_n C 3 rfl dX3_pitch_8, List.forall_mem_cons.mpr ⟨so_aload_n C 2 rfl dX3_pitch_9, List.forall_mem_cons.mpr ⟨so_getI C [4] 0 (fd_RX3_21_4 C) (by decide) dX3_pitch_10, List.forall_mem_cons.mpr ⟨so_aload_n C 3 rfl dX3_pitch_13, List.forall_mem_cons.mpr ⟨so_callV C (y := yX6_wayOn) 6 0 0 0 (RX6, TX6, 5) (by decide) rfl rfl ⟨Nat.le_refl _, Nat.le_refl _⟩ (c_X6_wayOn l D ids) kw_542 kw_649 kw_540 kw_541 kw_4 hy_X6_wayOn ⟨Nat.le_of_ble_eq_true rfl, Nat.le_of_ble_eq_true rfl⟩ dX3_pitch_14, List.forall_mem_cons.mpr ⟨so_aload_n C 1 rfl dX3_pitch_17, List.forall_mem_cons.mpr ⟨so_getR C [2] 1 (fd_RX3_32_2 C) (ft_2_1) dX3_pitch_18, List.forall_mem_cons.mpr ⟨so_callV C (y := yX6_walk) 6 3 0 0 (RX6, TX6, 5) (by decide) rfl rfl ⟨Nat.le_refl _, Nat.le_refl _⟩ (c_X6_walk l D ids) kw_546 kw_650 kw_544 kw_545 kw_4 hy_X6_walk ⟨Nat.le_of_ble_eq_true rfl, Nat.le_of_ble_eq_true rfl⟩ dX3_pitch_21, List.forall_mem_cons.mpr ⟨so_iconst C 0 rfl dX3_pitch_24, List.forall_mem_cons.mpr ⟨so_istore C 5 (by decide) dX3_pitch_25, List.forall_mem_cons.mpr ⟨so_iconst C (-1) rfl dX3_pitch_27, List.forall_mem_cons.mpr ⟨so_istore C 6 (by decide) dX3_pitch_28, List.forall_mem_cons.mpr ⟨so_iconst C 0 rfl dX3_pitch_30, List.forall_mem_cons.mpr ⟨so_istore C 7 (by decide) dX3_pitch_31, List.forall_mem_cons.mpr ⟨so_iload C 7 dX3_pitch_33, List.forall_mem_cons.mpr ⟨so_bipush C 10 rfl dX3_pitch_35, List.forall_mem_cons.mpr ⟨so_ic_ge C (by decide) dX3_pitch_37, List.forall_mem_cons.mpr ⟨so_iload C 5 dX3_pitch_40, List.forall_mem_cons.mpr ⟨so_aload_n C 3 rfl dX3_pitch_42, List.forall_mem_cons.mpr ⟨so_getI C [6] 0 (fd_RX3_40_6 C) (by decide) dX3_pitch_43, fun _ h => absurd h List.not_mem_nil⟩⟩⟩⟩⟩⟩⟩⟩⟩⟩⟩⟩⟩⟩⟩⟩⟩⟩⟩⟩⟩⟩⟩⟩
set_option maxRecDepth 20000 in
theorem sn_X3_pitch_1 {p : Program} {l : Launch} {e : Env} {s : State} {m : MethodId} {args : Array Value} {below : List Frame} {meth : Method} {c : Code} {D : va_G} {ids : Nat → ClassId} {b : Nat} {Q : oQ} (C : oCx p s m args c cX3_pitch 10 (yX3_pitch).cls D ids b) (hr : meth.sig.returnType = none) (hlk : meth.locks = false) (hnm : meth.name = (yX3_pitch).name) : ∀ q ∈ tl_X3_pitch_1, oSn (oW p l e (oRm 2 51 0 0) s m args below meth c 10 D ids b (oMQ D ids b below Q args s 0 0)) Q q.1 q.2 := List.forall_mem_cons.mpr ⟨so_ic_ge C (by decide) dX3_pitch_46, List.forall_mem_cons.mpr ⟨so_aload_n C 2 rfl dX3_pitch_49, List.forall_mem_cons.mpr ⟨so_aload_n C 1 rfl dX3_pitch_50, List.forall_mem_cons.mpr ⟨so_getR C [2] 1 (fd_RX3_32_2 C) (ft_2_1) dX3_pitch_51, List.forall_mem_cons.mpr ⟨so_aload_n C 0 rfl dX3_pitch_54, List.forall_mem_cons.mpr ⟨so_iload C 5 dX3_pitch_55, List.forall_mem_cons.mpr ⟨so_aload_n C 3 rfl dX3_pitch_57, List.forall_mem_cons.mpr ⟨so_callX C (x := yX3_dayLookedAt) [(3, T_X3_dayLookedAt), (5, T_X5_dayLookedAt)] 2 0 0 ⟨Nat.le_refl _, Nat.le_refl _⟩ (List.forall_mem_cons.mpr ⟨⟨(RX3, TX3, 2), yX3_dayLookedAt, cX3_dayLookedAt, 3, (some .int), 0, 0, by decide, rfl, c_X3_dayLookedAt l D ids, kw_659, kw_653, kw_652, kw_14, Nat.le_of_ble_eq_true rfl, Nat.le_of_ble_eq_true rfl⟩, List.forall_mem_cons.mpr ⟨⟨(RX5, TX5, 2), yX5_dayLookedAt, cX5_dayLookedAt, 3, (some .int), 1, 21, by decide, rfl, c_X5_dayLookedAt l D ids, kw_657, kw_655, kw_656, kw_15, Nat.le_of_ble_eq_true rfl, Nat.le_of_ble_eq_true rfl⟩, fun _ h => absurd h List.not_mem_nil⟩⟩) kw_651 kw_654 kw_652 kw_659 hy_X3_dayLookedAt dX3_pitch_58, List.forall_mem_cons.mpr ⟨so_iald C dX3_pitch_61, List.forall_mem_cons.mpr ⟨so_callV C (y := yX4_lastWood) 4 1 0 0 (RX4, TX4, 7) (by decide) rfl rfl ⟨Nat.le_refl _, Nat.le_refl _⟩ (c_X4_lastWood l D ids) kw_663 kw_660 kw_661 kw_662 kw_3 hy_X4_lastWood ⟨Nat.le_of_ble_eq_true rfl, Nat.le_of_ble_eq_true rfl⟩ dX3_pitch_62, List.forall_mem_cons.mpr ⟨so_istore C 8 (by decide) dX3_pitch_65, List.forall_mem_cons.mpr ⟨so_iload C 8 dX3_pitch_67, List.forall_mem_cons.mpr ⟨so_iconst C (-1) rfl dX3_pitch_69, List.forall_mem_cons.mpr ⟨so_ic_ne C (by decide) dX3_pitch_70, List.forall_mem_cons.mpr ⟨so_iinc C 5 1 (by decide) dX3_pitch_73, List.forall_mem_cons.mpr ⟨so_goto C (by decide) dX3_pitch_76, List.forall_mem_cons.mpr ⟨so_iload C 5 dX3_pitch_79, List.forall_mem_cons.mpr ⟨so_iload C 6 dX3_pitch_81, List.forall_mem_cons.mpr ⟨so_iconst C (-1) rfl dX3_pitch_83, List.forall_mem_cons.mpr ⟨so_ic_ne C (by decide) dX3_pitch_84, List.forall_mem_cons.mpr ⟨so_iconst C 0 rfl dX3_pitch_87, List.forall_mem_cons.mpr ⟨so_goto C (by decide) dX3_pitch_88, List.forall_mem_cons.mpr ⟨so_iload C 8 dX3_pitch_91, List.forall_mem_cons.mpr ⟨so_iload C 6 dX3_pitch_93, fun _ h => absurd h List.not_mem_nil⟩⟩⟩⟩⟩⟩⟩⟩⟩⟩⟩⟩⟩⟩⟩⟩⟩⟩⟩⟩⟩⟩⟩⟩
set_option maxRecDepth 20000 in
theorem sn_X3_pitch_2 {p : Program} {l : Launch} {e : Env} {s : State} {m : MethodId} {args : Array Value} {below : List Frame} {meth : Method} {c : Code} {D : va_G} {ids : Nat → ClassId} {b : Nat} {Q : oQ} (C : oCx p s m args c cX3_pitch 10 (yX3_pitch).cls D ids b) (hr : meth.sig.returnType = none) (hlk : meth.locks = false) (hnm : meth.name = (yX3_pitch).name) : ∀ q ∈ tl_X3_pitch_2, oSn (oW p l e (oRm 2 51 0 0) s m args below meth c 10 D ids b (oMQ D ids b below Q args s 0 0)) Q q.1 q.2 := List.forall_mem_cons.mpr ⟨so_isub C dX3_pitch_95, List.forall_mem_cons.mpr ⟨so_abs C 0 0 ⟨Nat.le_refl _, Nat.le_refl _⟩ kw_665 kw_612 kw_12 kw_613 (by decide) (by decide) dX3_pitch_96, List.forall_mem_cons.mpr ⟨so_iadd C dX3_pitch_99, List.forall_mem_cons.mpr ⟨so_istore C 5 (by decide) dX3_pitch_100, List.forall_mem_cons.mpr ⟨so_iconst C 0 rfl dX3_pitch_102, List.forall_mem_cons.mpr ⟨so_istore C 9 (by decide) dX3_pitch_103, List.forall_mem_cons.mpr ⟨so_iload C 9 dX3_pitch_105, List.forall_mem_cons.mpr ⟨so_iload C 4 dX3_pitch_107, List.forall_mem_cons.mpr ⟨so_ic_ge C (by decide) dX3_pitch_109, List.forall_mem_cons.mpr ⟨so_aload_n C 1 rfl dX3_pitch_112, List.forall_mem_cons.mpr ⟨so_getR C [2] 0 (fd_RX3_9_2 C) (ft_2_0) dX3_pitch_113, List.forall_mem_cons.mpr ⟨so_aload_n C 2 rfl dX3_pitch_116, List.forall_mem_cons.mpr ⟨so_aload_n C 3 rfl dX3_pitch_117, List.forall_mem_cons.mpr ⟨so_iload C 8 dX3_pitch_118, List.forall_mem_cons.mpr ⟨so_iload C 5 dX3_pitch_120, List.forall_mem_cons.mpr ⟨so_iload C 5 dX3_pitch_122, List.forall_mem_cons.mpr ⟨so_aload_n C 0 rfl dX3_pitch_124, List.forall_mem_cons.mpr ⟨so_getI C [3, 5] 1 (fd_RX3_58_3_5 C) (by decide) dX3_pitch_125, List.forall_mem_cons.mpr ⟨so_iadd C dX3_pitch_128, List.forall_mem_cons.mpr ⟨so_iconst C 1 rfl dX3_pitch_129, List.forall_mem_cons.mpr ⟨so_isub C dX3_pitch_130, List.forall_mem_cons.mpr ⟨so_callV C (y := yX9_add) 9 5 0 0 (RX9, TX9, 4) (by decide) rfl rfl ⟨Nat.le_refl _, Nat.le_refl _⟩ (c_X9_add l D ids) kw_573 kw_666 kw_571 kw_572 kw_8 hy_X9_add ⟨Nat.le_of_ble_eq_true rfl, Nat.le_of_ble_eq_true rfl⟩ dX3_pitch_131, List.forall_mem_cons.mpr ⟨so_iinc C 9 1 (by decide) dX3_pitch_134, List.forall_mem_cons.mpr ⟨so_goto C (by decide) dX3_pitch_137, fun _ h => absurd h List.not_mem_nil⟩⟩⟩⟩⟩⟩⟩⟩⟩⟩⟩⟩⟩⟩⟩⟩⟩⟩⟩⟩⟩⟩⟩⟩
set_option maxRecDepth 20000 in
theorem sn_X3_pitch_3 {p : Program} {l : Launch} {e : Env} {s : State} {m : MethodId} {args : Array Value} {below : List Frame} {meth : Method} {c : Code} {D : va_G} {ids : Nat → ClassId} {b : Nat} {Q : oQ} (C : oCx p s m args c cX3_pitch 10 (yX3_pitch).cls D ids b) (hr : meth.sig.returnType = none) (hlk : meth.locks = false) (hnm : meth.name = (yX3_pitch).name) : ∀ q ∈ tl_X3_pitch_3, oSn (oW p l e (oRm 2 51 0 0) s m args below meth c 10 D ids b (oMQ D ids b below Q args s 0 0)) Q q.1 q.2 := List.forall_mem_cons.mpr ⟨so_iload C 8 dX3_pitch_140, List.forall_mem_cons.mpr ⟨so_istore C 6 (by decide) dX3_pitch_142, List.forall_mem_cons.mpr ⟨so_iload C 5 dX3_pitch_144, List.forall_mem_cons.mpr ⟨so_aload_n C 0 rfl dX3_pitch_146, List.forall_mem_cons.mpr ⟨so_getI C [3, 5] 1 (fd_RX3_58_3_5 C) (by decide) dX3_pitch_147, List.forall_mem_cons.mpr ⟨so_iadd C dX3_pitch_150, List.forall_mem_cons.mpr ⟨so_istore C 5 (by decide) dX3_pitch_151, List.forall_mem_cons.mpr ⟨so_iinc C 7 1 (by decide) dX3_pitch_153, List.forall_mem_cons.mpr ⟨so_goto C (by decide) dX3_pitch_156, List.forall_mem_cons.mpr ⟨so_ret0 C 0 0 hr hlk dX3_pitch_159, fun _ h => absurd h List.not_mem_nil⟩⟩⟩⟩⟩⟩⟩⟩⟩⟩
set_option maxRecDepth 20000 in
theorem c_X3_pitch (l : Launch) (D : va_G) (ids : Nat → ClassId) : oMT l D ids yX3_pitch cX3_pitch 10 none 2 51 0 0 T_X3_pitch := oMet l D ids tb_X3_pitch (by decide) (fun p e s m args below meth c b Q C hr hlk hnm => oTab_all (tl_X3_pitch_0 ++ (tl_X3_pitch_1 ++ (tl_X3_pitch_2 ++ (tl_X3_pitch_3)))) (List.forall_mem_append.mpr ⟨sn_X3_pitch_0 C hr hlk hnm, List.forall_mem_append.mpr ⟨sn_X3_pitch_1 C hr hlk hnm, List.forall_mem_append.mpr ⟨sn_X3_pitch_2 C hr hlk hnm, sn_X3_pitch_3 C hr hlk hnm⟩⟩⟩))
theorem dX6_hasWay_0 : decode cX6_hasWay 0 = .ok (.iload_n 1, 1) := by decide +kernel
theorem dX6_hasWay_1 : decode cX6_hasWay 1 = .ok (.ifCond .lt 15, 3) := by decide +kernel
theorem dX6_hasWay_4 : decode cX6_hasWay 4 = .ok (.iload_n 1, 1) := by decide +kernel
theorem dX6_hasWay_5 : decode cX6_hasWay 5 = .ok (.aload_n 0, 1) := by decide +kernel
theorem dX6_hasWay_6 : decode cX6_hasWay 6 = .ok (.invokevirtual 64, 3) := by decide +kernel
theorem dX6_hasWay_9 : decode cX6_hasWay 9 = .ok (.if_icmp .gt 7, 3) := by decide +kernel
theorem dX6_hasWay_12 : decode cX6_hasWay 12 = .ok (.iconst 1, 1) := by decide +kernel
theorem dX6_hasWay_13 : decode cX6_hasWay 13 = .ok (.goto 4, 3) := by decide +kernel
theorem dX6_hasWay_16 : decode cX6_hasWay 16 = .ok (.iconst 0, 1) := by decide +kernel
theorem dX6_hasWay_17 : decode cX6_hasWay 17 = .ok (.ireturn, 1) := by decide +kernel
abbrev tl_X6_hasWay_0 : List (Nat × oOp) := [(0, o_ild 1 1), (1, o_if zLt 16 4), (4, o_ild 1 5), (5, o_ald 0 6), (6, o_callo T_X6_wayOn 6 0 0 0 0 0 9), (9, o_ic pGt 16 12), (12, o_push (vI 1) 13), (13, o_go 17), (16, o_push (vI 0) 17), (17, o_retz 0 0)]
set_option maxRecDepth 20000 in
def tb_X6_hasWay : Nat → oOp := oTab [(0, o_ild 1 1), (1, o_if zLt 16 4), (4, o_ild 1 5), (5, o_ald 0 6), (6, o_callo T_X6_wayOn 6 0 0 0 0 0 9), (9, o_ic pGt 16 12), (12, o_push (vI 1) 13), (13, o_go 17), (16, o_push (vI 0) 17), (17, o_retz 0 0)]
def T_X6_hasWay : List oA → oM → oQ → Prop := oT tb_X6_hasWay 2
set_option maxRecDepth 20000 in
theorem sn_X6_hasWay_0 {p : Program} {l : Launch} {e : Env} {s : State} {m : MethodId} {args : Array Value} {below : List Frame} {meth : Method} {c : Code} {D : va_G} {ids : Nat → ClassId} {b : Nat} {Q : oQ} (C : oCx p s m args c cX6_hasWay 2 (yX6_hasWay).cls D ids b) (hr : meth.sig.returnType = (some .boolean)) (hlk : meth.locks = false) (hnm : meth.name = (yX6_hasWay).name) : ∀ q ∈ tl_X6_hasWay_0, oSn (oW p l e (oRm 1 20 0 0) s m args below meth c 2 D ids b (oMQ D ids b below Q args s 0 0)) Q q.1 q.2 := List.forall_mem_cons.mpr ⟨so_iload_n C 1 rfl dX6_hasWay_0, List.forall_mem_cons.mpr ⟨so_if_lt C (by decide) dX6_hasWay_1, List.forall_mem_cons.mpr ⟨so_iload_n C 1 rfl dX6_hasWay_4, List.forall_mem_cons.mpr ⟨so_aload_n C 0 rfl dX6_hasWay_5, List.forall_mem_cons.mpr ⟨so_callV C (y := yX6_wayOn) 6 0 0 0 (RX6, TX6, 5) (by decide) rfl rfl ⟨Nat.le_refl _, Nat.le_refl _⟩ (c_X6_wayOn l D ids) kw_542 kw_539 kw_540 kw_541 kw_4 hy_X6_wayOn ⟨Nat.le_of_ble_eq_true rfl, Nat.le_of_ble_eq_true rfl⟩ dX6_hasWay_6, List.forall_mem_cons.mpr ⟨so_ic_gt C (by decide) dX6_hasWay_9, List.forall_mem_cons.mpr ⟨so_iconst C 1 rfl dX6_hasWay_12, List.forall_mem_cons.mpr ⟨so_goto C (by decide) dX6_hasWay_13, List.forall_mem_cons.mpr ⟨so_iconst C 0 rfl dX6_hasWay_16, List.forall_mem_cons.mpr ⟨so_retz C 0 0 hr hlk dX6_hasWay_17, fun _ h => absurd h List.not_mem_nil⟩⟩⟩⟩⟩⟩⟩⟩⟩⟩
set_option maxRecDepth 20000 in
theorem c_X6_hasWay (l : Launch) (D : va_G) (ids : Nat → ClassId) : oMT l D ids yX6_hasWay cX6_hasWay 2 (some .boolean) 1 20 0 0 T_X6_hasWay := oMet l D ids tb_X6_hasWay (by decide) (fun p e s m args below meth c b Q C hr hlk hnm => oTab_all (tl_X6_hasWay_0) (sn_X6_hasWay_0 C hr hlk hnm))
theorem dX9_bakingAt_0 : decode cX9_bakingAt 0 = .ok (.iconst 0, 1) := by decide +kernel
theorem dX9_bakingAt_1 : decode cX9_bakingAt 1 = .ok (.istore 4, 2) := by decide +kernel
theorem dX9_bakingAt_3 : decode cX9_bakingAt 3 = .ok (.iconst 0, 1) := by decide +kernel
theorem dX9_bakingAt_4 : decode cX9_bakingAt 4 = .ok (.istore 5, 2) := by decide +kernel
theorem dX9_bakingAt_6 : decode cX9_bakingAt 6 = .ok (.iload 5, 2) := by decide +kernel
theorem dX9_bakingAt_8 : decode cX9_bakingAt 8 = .ok (.aload_n 0, 1) := by decide +kernel
theorem dX9_bakingAt_9 : decode cX9_bakingAt 9 = .ok (.getfield 42, 3) := by decide +kernel
theorem dX9_bakingAt_12 : decode cX9_bakingAt 12 = .ok (.if_icmp .ge 47, 3) := by decide +kernel
theorem dX9_bakingAt_15 : decode cX9_bakingAt 15 = .ok (.aload_n 0, 1) := by decide +kernel
theorem dX9_bakingAt_16 : decode cX9_bakingAt 16 = .ok (.getfield 11, 3) := by decide +kernel
theorem dX9_bakingAt_19 : decode cX9_bakingAt 19 = .ok (.iload 5, 2) := by decide +kernel
theorem dX9_bakingAt_21 : decode cX9_bakingAt 21 = .ok (.iaload, 1) := by decide +kernel
theorem dX9_bakingAt_22 : decode cX9_bakingAt 22 = .ok (.iload_n 1, 1) := by decide +kernel
theorem dX9_bakingAt_23 : decode cX9_bakingAt 23 = .ok (.if_icmp .ne 30, 3) := by decide +kernel
theorem dX9_bakingAt_26 : decode cX9_bakingAt 26 = .ok (.aload_n 0, 1) := by decide +kernel
theorem dX9_bakingAt_27 : decode cX9_bakingAt 27 = .ok (.getfield 15, 3) := by decide +kernel
theorem dX9_bakingAt_30 : decode cX9_bakingAt 30 = .ok (.iload 5, 2) := by decide +kernel
theorem dX9_bakingAt_32 : decode cX9_bakingAt 32 = .ok (.iaload, 1) := by decide +kernel
theorem dX9_bakingAt_33 : decode cX9_bakingAt 33 = .ok (.iload_n 3, 1) := by decide +kernel
theorem dX9_bakingAt_34 : decode cX9_bakingAt 34 = .ok (.iadd, 1) := by decide +kernel
theorem dX9_bakingAt_35 : decode cX9_bakingAt 35 = .ok (.iload_n 2, 1) := by decide +kernel
theorem dX9_bakingAt_36 : decode cX9_bakingAt 36 = .ok (.if_icmp .gt 17, 3) := by decide +kernel
theorem dX9_bakingAt_39 : decode cX9_bakingAt 39 = .ok (.iload_n 2, 1) := by decide +kernel
theorem dX9_bakingAt_40 : decode cX9_bakingAt 40 = .ok (.aload_n 0, 1) := by decide +kernel
theorem dX9_bakingAt_41 : decode cX9_bakingAt 41 = .ok (.getfield 18, 3) := by decide +kernel
theorem dX9_bakingAt_44 : decode cX9_bakingAt 44 = .ok (.iload 5, 2) := by decide +kernel
theorem dX9_bakingAt_46 : decode cX9_bakingAt 46 = .ok (.iaload, 1) := by decide +kernel
theorem dX9_bakingAt_47 : decode cX9_bakingAt 47 = .ok (.if_icmp .gt 6, 3) := by decide +kernel
theorem dX9_bakingAt_50 : decode cX9_bakingAt 50 = .ok (.iinc 4 1, 3) := by decide +kernel
theorem dX9_bakingAt_53 : decode cX9_bakingAt 53 = .ok (.iinc 5 1, 3) := by decide +kernel
theorem dX9_bakingAt_56 : decode cX9_bakingAt 56 = .ok (.goto (-50), 3) := by decide +kernel
theorem dX9_bakingAt_59 : decode cX9_bakingAt 59 = .ok (.iload 4, 2) := by decide +kernel
theorem dX9_bakingAt_61 : decode cX9_bakingAt 61 = .ok (.ireturn, 1) := by decide +kernel
abbrev tl_X9_bakingAt_0 : List (Nat × oOp) := [(0, o_push (vI 0) 1), (1, o_ist 4 3), (3, o_push (vI 0) 4), (4, o_ist 5 6), (6, o_ild 5 8), (8, o_ald 0 9), (9, o_getI [9] 3 12), (12, o_ic pGe 59 15), (15, o_ald 0 16), (16, o_getR [9] 0 19), (19, o_ild 5 21), (21, o_xald 13 22), (22, o_ild 1 23), (23, o_ic pNe 53 26), (26, o_ald 0 27), (27, o_getR [9] 1 30), (30, o_ild 5 32), (32, o_xald 13 33), (33, o_ild 3 34), (34, o_ib fAdd 35), (35, o_ild 2 36), (36, o_ic pGt 53 39), (39, o_ild 2 40), (40, o_ald 0 41)]
abbrev tl_X9_bakingAt_1 : List (Nat × oOp) := [(41, o_getR [9] 2 44), (44, o_ild 5 46), (46, o_xald 13 47), (47, o_ic pGt 53 50), (50, o_inc 4 1 53), (53, o_inc 5 1 56), (56, o_go 6), (59, o_ild 4 61), (61, o_reti 0 0)]
set_option maxRecDepth 20000 in
def tb_X9_bakingAt : Nat → oOp := oTab [(0, o_push (vI 0) 1), (1, o_ist 4 3), (3, o_push (vI 0) 4), (4, o_ist 5 6), (6, o_ild 5 8), (8, o_ald 0 9), (9, o_getI [9] 3 12), (12, o_ic pGe 59 15), (15, o_ald 0 16), (16, o_getR [9] 0 19), (19, o_ild 5 21), (21, o_xald 13 22), (22, o_ild 1 23), (23, o_ic pNe 53 26), (26, o_ald 0 27), (27, o_getR [9] 1 30), (30, o_ild 5 32), (32, o_xald 13 33), (33, o_ild 3 34), (34, o_ib fAdd 35), (35, o_ild 2 36), (36, o_ic pGt 53 39), (39, o_ild 2 40), (40, o_ald 0 41), (41, o_getR [9] 2 44), (44, o_ild 5 46), (46, o_xald 13 47), (47, o_ic pGt 53 50), (50, o_inc 4 1 53), (53, o_inc 5 1 56), (56, o_go 6), (59, o_ild 4 61), (61, o_reti 0 0)]
def T_X9_bakingAt : List oA → oM → oQ → Prop := oT tb_X9_bakingAt 6
set_option maxRecDepth 20000 in
theorem sn_X9_bakingAt_0 {p : Program} {l : Launch} {e : Env} {s : State} {m : MethodId} {args : Array Value} {below : List Frame} {meth : Method} {c : Code} {D : va_G} {ids : Nat → ClassId} {b : Nat} {Q : oQ} (C : oCx p s m args c cX9_bakingAt 6 (yX9_bakingAt).cls D ids b) (hr : meth.sig.returnType = (some .int)) (hlk : meth.locks = false) (hnm : meth.name = (yX9_bakingAt).name) : ∀ q ∈ tl_X9_bakingAt_0, oSn (oW p l e (oRm 0 0 0 0) s m args below meth c 6 D ids b (oMQ D ids b below Q args s 0 0)) Q q.1 q.2 := List.forall_mem_cons.mpr ⟨so_iconst C 0 rfl dX9_bakingAt_0, List.forall_mem_cons.mpr ⟨so_istore C 4 (by decide) dX9_bakingAt_1, List.forall_mem_cons.mpr ⟨so_iconst C 0 rfl dX9_bakingAt_3, List.forall_mem_cons.mpr ⟨so_istore C 5 (by decide) dX9_bakingAt_4, List.forall_mem_cons.mpr ⟨so_iload C 5 dX9_bakingAt_6, List.forall_mem_cons.mpr ⟨so_aload_n C 0 rfl dX9_bakingAt_8, List.forall_mem_cons.mpr ⟨so_getI C [9] 3 (fd_RX9_42_9 C) (by decide) dX9_bakingAt_9, List.forall_mem_cons.mpr ⟨so_ic_ge C (by decide) dX9_bakingAt_12, List.forall_mem_cons.mpr ⟨so_aload_n C 0 rfl dX9_bakingAt_15, List.forall_mem_cons.mpr ⟨so_getR C [9] 0 (fd_RX9_11_9 C) (ft_9_0) dX9_bakingAt_16, List.forall_mem_cons.mpr ⟨so_iload C 5 dX9_bakingAt_19, List.forall_mem_cons.mpr ⟨so_iald C dX9_bakingAt_21, List.forall_mem_cons.mpr ⟨so_iload_n C 1 rfl dX9_bakingAt_22, List.forall_mem_cons.mpr ⟨so_ic_ne C (by decide) dX9_bakingAt_23, List.forall_mem_cons.mpr ⟨so_aload_n C 0 rfl dX9_bakingAt_26, List.forall_mem_cons.mpr ⟨so_getR C [9] 1 (fd_RX9_15_9 C) (ft_9_1) dX9_bakingAt_27, List.forall_mem_cons.mpr ⟨so_iload C 5 dX9_bakingAt_30, List.forall_mem_cons.mpr ⟨so_iald C dX9_bakingAt_32, List.forall_mem_cons.mpr ⟨so_iload_n C 3 rfl dX9_bakingAt_33, List.forall_mem_cons.mpr ⟨so_iadd C dX9_bakingAt_34, List.forall_mem_cons.mpr ⟨so_iload_n C 2 rfl dX9_bakingAt_35, List.forall_mem_cons.mpr ⟨so_ic_gt C (by decide) dX9_bakingAt_36, List.forall_mem_cons.mpr ⟨so_iload_n C 2 rfl dX9_bakingAt_39, List.forall_mem_cons.mpr ⟨so_aload_n C 0 rfl dX9_bakingAt_40, fun _ h => absurd h List.not_mem_nil⟩⟩⟩⟩⟩⟩⟩⟩⟩⟩⟩⟩⟩⟩⟩⟩⟩⟩⟩⟩⟩⟩⟩⟩
set_option maxRecDepth 20000 in
theorem sn_X9_bakingAt_1 {p : Program} {l : Launch} {e : Env} {s : State} {m : MethodId} {args : Array Value} {below : List Frame} {meth : Method} {c : Code} {D : va_G} {ids : Nat → ClassId} {b : Nat} {Q : oQ} (C : oCx p s m args c cX9_bakingAt 6 (yX9_bakingAt).cls D ids b) (hr : meth.sig.returnType = (some .int)) (hlk : meth.locks = false) (hnm : meth.name = (yX9_bakingAt).name) : ∀ q ∈ tl_X9_bakingAt_1, oSn (oW p l e (oRm 0 0 0 0) s m args below meth c 6 D ids b (oMQ D ids b below Q args s 0 0)) Q q.1 q.2 := List.forall_mem_cons.mpr ⟨so_getR C [9] 2 (fd_RX9_18_9 C) (ft_9_2) dX9_bakingAt_41, List.forall_mem_cons.mpr ⟨so_iload C 5 dX9_bakingAt_44, List.forall_mem_cons.mpr ⟨so_iald C dX9_bakingAt_46, List.forall_mem_cons.mpr ⟨so_ic_gt C (by decide) dX9_bakingAt_47, List.forall_mem_cons.mpr ⟨so_iinc C 4 1 (by decide) dX9_bakingAt_50, List.forall_mem_cons.mpr ⟨so_iinc C 5 1 (by decide) dX9_bakingAt_53, List.forall_mem_cons.mpr ⟨so_goto C (by decide) dX9_bakingAt_56, List.forall_mem_cons.mpr ⟨so_iload C 4 dX9_bakingAt_59, List.forall_mem_cons.mpr ⟨so_reti C 0 0 hr hlk dX9_bakingAt_61, fun _ h => absurd h List.not_mem_nil⟩⟩⟩⟩⟩⟩⟩⟩⟩
set_option maxRecDepth 20000 in
theorem c_X9_bakingAt (l : Launch) (D : va_G) (ids : Nat → ClassId) : oMT l D ids yX9_bakingAt cX9_bakingAt 6 (some .int) 0 0 0 0 T_X9_bakingAt := oMet l D ids tb_X9_bakingAt (by decide) (fun p e s m args below meth c b Q C hr hlk hnm => oTab_all (tl_X9_bakingAt_0 ++ (tl_X9_bakingAt_1)) (List.forall_mem_append.mpr ⟨sn_X9_bakingAt_0 C hr hlk hnm, sn_X9_bakingAt_1 C hr hlk hnm⟩))
theorem dX4_become_0 : decode cX4_become 0 = .ok (.aload_n 0, 1) := by decide +kernel
theorem dX4_become_1 : decode cX4_become 1 = .ok (.aload_n 1, 1) := by decide +kernel
theorem dX4_become_2 : decode cX4_become 2 = .ok (.getfield 18, 3) := by decide +kernel
theorem dX4_become_5 : decode cX4_become 5 = .ok (.putfield 18, 3) := by decide +kernel
theorem dX4_become_8 : decode cX4_become 8 = .ok (.aload_n 1, 1) := by decide +kernel
theorem dX4_become_9 : decode cX4_become 9 = .ok (.getfield 9, 3) := by decide +kernel
theorem dX4_become_12 : decode cX4_become 12 = .ok (.iconst 0, 1) := by decide +kernel
theorem dX4_become_13 : decode cX4_become 13 = .ok (.aload_n 0, 1) := by decide +kernel
theorem dX4_become_14 : decode cX4_become 14 = .ok (.getfield 9, 3) := by decide +kernel
theorem dX4_become_17 : decode cX4_become 17 = .ok (.iconst 0, 1) := by decide +kernel
theorem dX4_become_18 : decode cX4_become 18 = .ok (.bipush 8, 2) := by decide +kernel
theorem dX4_become_20 : decode cX4_become 20 = .ok (.invokestatic 67, 3) := by decide +kernel
theorem dX4_become_23 : decode cX4_become 23 = .ok (.aload_n 1, 1) := by decide +kernel
theorem dX4_become_24 : decode cX4_become 24 = .ok (.getfield 15, 3) := by decide +kernel
theorem dX4_become_27 : decode cX4_become 27 = .ok (.iconst 0, 1) := by decide +kernel
theorem dX4_become_28 : decode cX4_become 28 = .ok (.aload_n 0, 1) := by decide +kernel
theorem dX4_become_29 : decode cX4_become 29 = .ok (.getfield 15, 3) := by decide +kernel
theorem dX4_become_32 : decode cX4_become 32 = .ok (.iconst 0, 1) := by decide +kernel
theorem dX4_become_33 : decode cX4_become 33 = .ok (.bipush 8, 2) := by decide +kernel
theorem dX4_become_35 : decode cX4_become 35 = .ok (.invokestatic 67, 3) := by decide +kernel
theorem dX4_become_38 : decode cX4_become 38 = .ok (.aload_n 0, 1) := by decide +kernel
theorem dX4_become_39 : decode cX4_become 39 = .ok (.aload_n 1, 1) := by decide +kernel
theorem dX4_become_40 : decode cX4_become 40 = .ok (.getfield 52, 3) := by decide +kernel
theorem dX4_become_43 : decode cX4_become 43 = .ok (.putfield 52, 3) := by decide +kernel
theorem dX4_become_46 : decode cX4_become 46 = .ok (.aload_n 0, 1) := by decide +kernel
theorem dX4_become_47 : decode cX4_become 47 = .ok (.aload_n 1, 1) := by decide +kernel
theorem dX4_become_48 : decode cX4_become 48 = .ok (.getfield 58, 3) := by decide +kernel
theorem dX4_become_51 : decode cX4_become 51 = .ok (.putfield 58, 3) := by decide +kernel
theorem dX4_become_54 : decode cX4_become 54 = .ok (.aload_n 0, 1) := by decide +kernel
theorem dX4_become_55 : decode cX4_become 55 = .ok (.aload_n 1, 1) := by decide +kernel
theorem dX4_become_56 : decode cX4_become 56 = .ok (.getfield 61, 3) := by decide +kernel
theorem dX4_become_59 : decode cX4_become 59 = .ok (.putfield 61, 3) := by decide +kernel
theorem dX4_become_62 : decode cX4_become 62 = .ok (.aload_n 0, 1) := by decide +kernel
theorem dX4_become_63 : decode cX4_become 63 = .ok (.aload_n 1, 1) := by decide +kernel
theorem dX4_become_64 : decode cX4_become 64 = .ok (.getfield 64, 3) := by decide +kernel
theorem dX4_become_67 : decode cX4_become 67 = .ok (.putfield 64, 3) := by decide +kernel
theorem dX4_become_70 : decode cX4_become 70 = .ok (.return_, 1) := by decide +kernel
abbrev tl_X4_become_0 : List (Nat × oOp) := [(0, o_ald 0 1), (1, o_ald 1 2), (2, o_getI [4] 0 5), (5, o_putI [4] 0 8), (8, o_ald 1 9), (9, o_getR [4] 1 12), (12, o_push (vI 0) 13), (13, o_ald 0 14), (14, o_getR [4] 1 17), (17, o_push (vI 0) 18), (18, o_push (vI 8) 20), (20, o_copy 23), (23, o_ald 1 24), (24, o_getR [4] 2 27), (27, o_push (vI 0) 28), (28, o_ald 0 29), (29, o_getR [4] 2 32), (32, o_push (vI 0) 33), (33, o_push (vI 8) 35), (35, o_copy 38), (38, o_ald 0 39), (39, o_ald 1 40), (40, o_getI [4] 3 43), (43, o_putI [4] 3 46)]
abbrev tl_X4_become_1 : List (Nat × oOp) := [(46, o_ald 0 47), (47, o_ald 1 48), (48, o_getI [4] 4 51), (51, o_putI [4] 4 54), (54, o_ald 0 55), (55, o_ald 1 56), (56, o_getI [4] 5 59), (59, o_putI [4] 5 62), (62, o_ald 0 63), (63, o_ald 1 64), (64, o_getI [4] 6 67), (67, o_putI [4] 6 70), (70, o_ret0 0 0)]
set_option maxRecDepth 20000 in
def tb_X4_become : Nat → oOp := oTab [(0, o_ald 0 1), (1, o_ald 1 2), (2, o_getI [4] 0 5), (5, o_putI [4] 0 8), (8, o_ald 1 9), (9, o_getR [4] 1 12), (12, o_push (vI 0) 13), (13, o_ald 0 14), (14, o_getR [4] 1 17), (17, o_push (vI 0) 18), (18, o_push (vI 8) 20), (20, o_copy 23), (23, o_ald 1 24), (24, o_getR [4] 2 27), (27, o_push (vI 0) 28), (28, o_ald 0 29), (29, o_getR [4] 2 32), (32, o_push (vI 0) 33), (33, o_push (vI 8) 35), (35, o_copy 38), (38, o_ald 0 39), (39, o_ald 1 40), (40, o_getI [4] 3 43), (43, o_putI [4] 3 46), (46, o_ald 0 47), (47, o_ald 1 48), (48, o_getI [4] 4 51), (51, o_putI [4] 4 54), (54, o_ald 0 55), (55, o_ald 1 56), (56, o_getI [4] 5 59), (59, o_putI [4] 5 62), (62, o_ald 0 63), (63, o_ald 1 64), (64, o_getI [4] 6 67), (67, o_putI [4] 6 70), (70, o_ret0 0 0)]
def T_X4_become : List oA → oM → oQ → Prop := oT tb_X4_become 2
set_option maxRecDepth 20000 in
theorem sn_X4_become_0 {p : Program} {l : Launch} {e : Env} {s : State} {m : MethodId} {args : Array Value} {below : List Frame} {meth : Method} {c : Code} {D : va_G} {ids : Nat → ClassId} {b : Nat} {Q : oQ} (C : oCx p s m args c cX4_become 2 (yX4_become).cls D ids b) (hr : meth.sig.returnType = none) (hlk : meth.locks = false) (hnm : meth.name = (yX4_become).name) : ∀ q ∈ tl_X4_become_0, oSn (oW p l e (oRm 1 40 0 0) s m args below meth c 2 D ids b (oMQ D ids b below Q args s 0 0)) Q q.1 q.2 := List.forall_mem_cons.mpr ⟨so_aload_n C 0 rfl dX4_become_0, List.forall_mem_cons.mpr ⟨so_aload_n C 1 rfl dX4_become_1, List.forall_mem_cons.mpr ⟨so_getI C [4] 0 (fd_RX4_18_4 C) (by decide) dX4_become_2, List.forall_mem_cons.mpr ⟨so_putI C [4] 0 (fd_RX4_18_4 C) (fn_4_0) (by decide) dX4_become_5, List.forall_mem_cons.mpr ⟨so_aload_n C 1 rfl dX4_become_8, List.forall_mem_cons.mpr ⟨so_getR C [4] 1 (fd_RX4_9_4 C) (ft_4_1) dX4_become_9, List.forall_mem_cons.mpr ⟨so_iconst C 0 rfl dX4_become_12, List.forall_mem_cons.mpr ⟨so_aload_n C 0 rfl dX4_become_13, List.forall_mem_cons.mpr ⟨so_getR C [4] 1 (fd_RX4_9_4 C) (ft_4_1) dX4_become_14, List.forall_mem_cons.mpr ⟨so_iconst C 0 rfl dX4_become_17, List.forall_mem_cons.mpr ⟨so_bipush C 8 rfl dX4_become_18, List.forall_mem_cons.mpr ⟨so_copy C kw_439 kw_441 kw_440 kw_13 (by decide) (by decide) dX4_become_20, List.forall_mem_cons.mpr ⟨so_aload_n C 1 rfl dX4_become_23, List.forall_mem_cons.mpr ⟨so_getR C [4] 2 (fd_RX4_15_4 C) (ft_4_2) dX4_become_24, List.forall_mem_cons.mpr ⟨so_iconst C 0 rfl dX4_become_27, List.forall_mem_cons.mpr ⟨so_aload_n C 0 rfl dX4_become_28, List.forall_mem_cons.mpr ⟨so_getR C [4] 2 (fd_RX4_15_4 C) (ft_4_2) dX4_become_29, List.forall_mem_cons.mpr ⟨so_iconst C 0 rfl dX4_become_32, List.forall_mem_cons.mpr ⟨so_bipush C 8 rfl dX4_become_33, List.forall_mem_cons.mpr ⟨so_copy C kw_439 kw_441 kw_440 kw_13 (by decide) (by decide) dX4_become_35, List.forall_mem_cons.mpr ⟨so_aload_n C 0 rfl dX4_become_38, List.forall_mem_cons.mpr ⟨so_aload_n C 1 rfl dX4_become_39, List.forall_mem_cons.mpr ⟨so_getI C [4] 3 (fd_RX4_52_4 C) (by decide) dX4_become_40, List.forall_mem_cons.mpr ⟨so_putI C [4] 3 (fd_RX4_52_4 C) (fn_4_3) (by decide) dX4_become_43, fun _ h => absurd h List.not_mem_nil⟩⟩⟩⟩⟩⟩⟩⟩⟩⟩⟩⟩⟩⟩⟩⟩⟩⟩⟩⟩⟩⟩⟩⟩
set_option maxRecDepth 20000 in
theorem sn_X4_become_1 {p : Program} {l : Launch} {e : Env} {s : State} {m : MethodId} {args : Array Value} {below : List Frame} {meth : Method} {c : Code} {D : va_G} {ids : Nat → ClassId} {b : Nat} {Q : oQ} (C : oCx p s m args c cX4_become 2 (yX4_become).cls D ids b) (hr : meth.sig.returnType = none) (hlk : meth.locks = false) (hnm : meth.name = (yX4_become).name) : ∀ q ∈ tl_X4_become_1, oSn (oW p l e (oRm 1 40 0 0) s m args below meth c 2 D ids b (oMQ D ids b below Q args s 0 0)) Q q.1 q.2 := List.forall_mem_cons.mpr ⟨so_aload_n C 0 rfl dX4_become_46, List.forall_mem_cons.mpr ⟨so_aload_n C 1 rfl dX4_become_47, List.forall_mem_cons.mpr ⟨so_getI C [4] 4 (fd_RX4_58_4 C) (by decide) dX4_become_48, List.forall_mem_cons.mpr ⟨so_putI C [4] 4 (fd_RX4_58_4 C) (fn_4_4) (by decide) dX4_become_51, List.forall_mem_cons.mpr ⟨so_aload_n C 0 rfl dX4_become_54, List.forall_mem_cons.mpr ⟨so_aload_n C 1 rfl dX4_become_55, List.forall_mem_cons.mpr ⟨so_getI C [4] 5 (fd_RX4_61_4 C) (by decide) dX4_become_56, List.forall_mem_cons.mpr ⟨so_putI C [4] 5 (fd_RX4_61_4 C) (fn_4_5) (by decide) dX4_become_59, List.forall_mem_cons.mpr ⟨so_aload_n C 0 rfl dX4_become_62, List.forall_mem_cons.mpr ⟨so_aload_n C 1 rfl dX4_become_63, List.forall_mem_cons.mpr ⟨so_getI C [4] 6 (fd_RX4_64_4 C) (by decide) dX4_become_64, List.forall_mem_cons.mpr ⟨so_putI C [4] 6 (fd_RX4_64_4 C) (fn_4_6) (by decide) dX4_become_67, List.forall_mem_cons.mpr ⟨so_ret0 C 0 0 hr hlk dX4_become_70, fun _ h => absurd h List.not_mem_nil⟩⟩⟩⟩⟩⟩⟩⟩⟩⟩⟩⟩⟩
set_option maxRecDepth 20000 in
theorem c_X4_become (l : Launch) (D : va_G) (ids : Nat → ClassId) : oMT l D ids yX4_become cX4_become 2 none 1 40 0 0 T_X4_become := oMet l D ids tb_X4_become (by decide) (fun p e s m args below meth c b Q C hr hlk hnm => oTab_all (tl_X4_become_0 ++ (tl_X4_become_1)) (List.forall_mem_append.mpr ⟨sn_X4_become_0 C hr hlk hnm, sn_X4_become_1 C hr hlk hnm⟩))
theorem dX1_kind_0 : decode cX1_kind 0 = .ok (.iconst 3, 1) := by decide +kernel
theorem dX1_kind_1 : decode cX1_kind 1 = .ok (.ireturn, 1) := by decide +kernel
abbrev tl_X1_kind_0 : List (Nat × oOp) := [(0, o_push (vI 3) 1), (1, o_reti 0 0)]
set_option maxRecDepth 20000 in
def tb_X1_kind : Nat → oOp := oTab [(0, o_push (vI 3) 1), (1, o_reti 0 0)]
def T_X1_kind : List oA → oM → oQ → Prop := oT tb_X1_kind 1
set_option maxRecDepth 20000 in
theorem sn_X1_kind_0 {p : Program} {l : Launch} {e : Env} {s : State} {m : MethodId} {args : Array Value} {below : List Frame} {meth : Method} {c : Code} {D : va_G} {ids : Nat → ClassId} {b : Nat} {Q : oQ} (C : oCx p s m args c cX1_kind 1 (yX1_kind).cls D ids b) (hr : meth.sig.returnType = (some .int)) (hlk : meth.locks = false) (hnm : meth.name = (yX1_kind).name) : ∀ q ∈ tl_X1_kind_0, oSn (oW p l e (oRm 0 0 0 0) s m args below meth c 1 D ids b (oMQ D ids b below Q args s 0 0)) Q q.1 q.2 := List.forall_mem_cons.mpr ⟨so_iconst C 3 rfl dX1_kind_0, List.forall_mem_cons.mpr ⟨so_reti C 0 0 hr hlk dX1_kind_1, fun _ h => absurd h List.not_mem_nil⟩⟩
set_option maxRecDepth 20000 in
theorem c_X1_kind (l : Launch) (D : va_G) (ids : Nat → ClassId) : oMT l D ids yX1_kind cX1_kind 1 (some .int) 0 0 0 0 T_X1_kind := oMet l D ids tb_X1_kind (by decide) (fun p e s m args below meth c b Q C hr hlk hnm => oTab_all (tl_X1_kind_0) (sn_X1_kind_0 C hr hlk hnm))
theorem dX3_kind_0 : decode cX3_kind 0 = .ok (.iconst 1, 1) := by decide +kernel
theorem dX3_kind_1 : decode cX3_kind 1 = .ok (.ireturn, 1) := by decide +kernel
abbrev tl_X3_kind_0 : List (Nat × oOp) := [(0, o_push (vI 1) 1), (1, o_reti 0 0)]
set_option maxRecDepth 20000 in
def tb_X3_kind : Nat → oOp := oTab [(0, o_push (vI 1) 1), (1, o_reti 0 0)]
def T_X3_kind : List oA → oM → oQ → Prop := oT tb_X3_kind 1
set_option maxRecDepth 20000 in
theorem sn_X3_kind_0 {p : Program} {l : Launch} {e : Env} {s : State} {m : MethodId} {args : Array Value} {below : List Frame} {meth : Method} {c : Code} {D : va_G} {ids : Nat → ClassId} {b : Nat} {Q : oQ} (C : oCx p s m args c cX3_kind 1 (yX3_kind).cls D ids b) (hr : meth.sig.returnType = (some .int)) (hlk : meth.locks = false) (hnm : meth.name = (yX3_kind).name) : ∀ q ∈ tl_X3_kind_0, oSn (oW p l e (oRm 0 0 0 0) s m args below meth c 1 D ids b (oMQ D ids b below Q args s 0 0)) Q q.1 q.2 := List.forall_mem_cons.mpr ⟨so_iconst C 1 rfl dX3_kind_0, List.forall_mem_cons.mpr ⟨so_reti C 0 0 hr hlk dX3_kind_1, fun _ h => absurd h List.not_mem_nil⟩⟩
set_option maxRecDepth 20000 in
theorem c_X3_kind (l : Launch) (D : va_G) (ids : Nat → ClassId) : oMT l D ids yX3_kind cX3_kind 1 (some .int) 0 0 0 0 T_X3_kind := oMet l D ids tb_X3_kind (by decide) (fun p e s m args below meth c b Q C hr hlk hnm => oTab_all (tl_X3_kind_0) (sn_X3_kind_0 C hr hlk hnm))
theorem dX5_kind_0 : decode cX5_kind 0 = .ok (.iconst 2, 1) := by decide +kernel
theorem dX5_kind_1 : decode cX5_kind 1 = .ok (.ireturn, 1) := by decide +kernel
abbrev tl_X5_kind_0 : List (Nat × oOp) := [(0, o_push (vI 2) 1), (1, o_reti 0 0)]
set_option maxRecDepth 20000 in
def tb_X5_kind : Nat → oOp := oTab [(0, o_push (vI 2) 1), (1, o_reti 0 0)]
def T_X5_kind : List oA → oM → oQ → Prop := oT tb_X5_kind 1
set_option maxRecDepth 20000 in
theorem sn_X5_kind_0 {p : Program} {l : Launch} {e : Env} {s : State} {m : MethodId} {args : Array Value} {below : List Frame} {meth : Method} {c : Code} {D : va_G} {ids : Nat → ClassId} {b : Nat} {Q : oQ} (C : oCx p s m args c cX5_kind 1 (yX5_kind).cls D ids b) (hr : meth.sig.returnType = (some .int)) (hlk : meth.locks = false) (hnm : meth.name = (yX5_kind).name) : ∀ q ∈ tl_X5_kind_0, oSn (oW p l e (oRm 0 0 0 0) s m args below meth c 1 D ids b (oMQ D ids b below Q args s 0 0)) Q q.1 q.2 := List.forall_mem_cons.mpr ⟨so_iconst C 2 rfl dX5_kind_0, List.forall_mem_cons.mpr ⟨so_reti C 0 0 hr hlk dX5_kind_1, fun _ h => absurd h List.not_mem_nil⟩⟩
set_option maxRecDepth 20000 in
theorem c_X5_kind (l : Launch) (D : va_G) (ids : Nat → ClassId) : oMT l D ids yX5_kind cX5_kind 1 (some .int) 0 0 0 0 T_X5_kind := oMet l D ids tb_X5_kind (by decide) (fun p e s m args below meth c b Q C hr hlk hnm => oTab_all (tl_X5_kind_0) (sn_X5_kind_0 C hr hlk hnm))
theorem dX6_addDays_0 : decode cX6_addDays 0 = .ok (.iconst 0, 1) := by decide +kernel
theorem dX6_addDays_1 : decode cX6_addDays 1 = .ok (.istore 4, 2) := by decide +kernel
theorem dX6_addDays_3 : decode cX6_addDays 3 = .ok (.iload 4, 2) := by decide +kernel
theorem dX6_addDays_5 : decode cX6_addDays 5 = .ok (.iload_n 2, 1) := by decide +kernel
theorem dX6_addDays_6 : decode cX6_addDays 6 = .ok (.if_icmp .ge 48, 3) := by decide +kernel
theorem dX6_addDays_9 : decode cX6_addDays 9 = .ok (.aload_n 0, 1) := by decide +kernel
theorem dX6_addDays_10 : decode cX6_addDays 10 = .ok (.getfield 27, 3) := by decide +kernel
theorem dX6_addDays_13 : decode cX6_addDays 13 = .ok (.bipush 10, 2) := by decide +kernel
theorem dX6_addDays_15 : decode cX6_addDays 15 = .ok (.if_icmp .ge 39, 3) := by decide +kernel
theorem dX6_addDays_18 : decode cX6_addDays 18 = .ok (.aload_n 0, 1) := by decide +kernel
theorem dX6_addDays_19 : decode cX6_addDays 19 = .ok (.getfield 15, 3) := by decide +kernel
theorem dX6_addDays_22 : decode cX6_addDays 22 = .ok (.aload_n 0, 1) := by decide +kernel
theorem dX6_addDays_23 : decode cX6_addDays 23 = .ok (.getfield 27, 3) := by decide +kernel
theorem dX6_addDays_26 : decode cX6_addDays 26 = .ok (.iload_n 1, 1) := by decide +kernel
theorem dX6_addDays_27 : decode cX6_addDays 27 = .ok (.iastore, 1) := by decide +kernel
theorem dX6_addDays_28 : decode cX6_addDays 28 = .ok (.aload_n 0, 1) := by decide +kernel
theorem dX6_addDays_29 : decode cX6_addDays 29 = .ok (.getfield 9, 3) := by decide +kernel
theorem dX6_addDays_32 : decode cX6_addDays 32 = .ok (.aload_n 0, 1) := by decide +kernel
theorem dX6_addDays_33 : decode cX6_addDays 33 = .ok (.getfield 27, 3) := by decide +kernel
theorem dX6_addDays_36 : decode cX6_addDays 36 = .ok (.iload_n 3, 1) := by decide +kernel
theorem dX6_addDays_37 : decode cX6_addDays 37 = .ok (.iastore, 1) := by decide +kernel
theorem dX6_addDays_38 : decode cX6_addDays 38 = .ok (.aload_n 0, 1) := by decide +kernel
theorem dX6_addDays_39 : decode cX6_addDays 39 = .ok (.dup, 1) := by decide +kernel
theorem dX6_addDays_40 : decode cX6_addDays 40 = .ok (.getfield 27, 3) := by decide +kernel
theorem dX6_addDays_43 : decode cX6_addDays 43 = .ok (.iconst 1, 1) := by decide +kernel
theorem dX6_addDays_44 : decode cX6_addDays 44 = .ok (.iadd, 1) := by decide +kernel
theorem dX6_addDays_45 : decode cX6_addDays 45 = .ok (.putfield 27, 3) := by decide +kernel
theorem dX6_addDays_48 : decode cX6_addDays 48 = .ok (.iinc 4 1, 3) := by decide +kernel
theorem dX6_addDays_51 : decode cX6_addDays 51 = .ok (.goto (-48), 3) := by decide +kernel
theorem dX6_addDays_54 : decode cX6_addDays 54 = .ok (.return_, 1) := by decide +kernel
abbrev tl_X6_addDays_0 : List (Nat × oOp) := [(0, o_push (vI 0) 1), (1, o_ist 4 3), (3, o_ild 4 5), (5, o_ild 2 6), (6, o_ic pGe 54 9), (9, o_ald 0 10), (10, o_getI [6] 0 13), (13, o_push (vI 10) 15), (15, o_ic pGe 54 18), (18, o_ald 0 19), (19, o_getR [6] 3 22), (22, o_ald 0 23), (23, o_getI [6] 0 26), (26, o_ild 1 27), (27, o_iast 28), (28, o_ald 0 29), (29, o_getR [6] 2 32), (32, o_ald 0 33), (33, o_getI [6] 0 36), (36, o_ild 3 37), (37, o_iast 38), (38, o_ald 0 39), (39, o_dup 40), (40, o_getI [6] 0 43)]
abbrev tl_X6_addDays_1 : List (Nat × oOp) := [(43, o_push (vI 1) 44), (44, o_ib fAdd 45), (45, o_putI [6] 0 48), (48, o_inc 4 1 51), (51, o_go 3), (54, o_ret0 0 0)]
set_option maxRecDepth 20000 in
def tb_X6_addDays : Nat → oOp := oTab [(0, o_push (vI 0) 1), (1, o_ist 4 3), (3, o_ild 4 5), (5, o_ild 2 6), (6, o_ic pGe 54 9), (9, o_ald 0 10), (10, o_getI [6] 0 13), (13, o_push (vI 10) 15), (15, o_ic pGe 54 18), (18, o_ald 0 19), (19, o_getR [6] 3 22), (22, o_ald 0 23), (23, o_getI [6] 0 26), (26, o_ild 1 27), (27, o_iast 28), (28, o_ald 0 29), (29, o_getR [6] 2 32), (32, o_ald 0 33), (33, o_getI [6] 0 36), (36, o_ild 3 37), (37, o_iast 38), (38, o_ald 0 39), (39, o_dup 40), (40, o_getI [6] 0 43), (43, o_push (vI 1) 44), (44, o_ib fAdd 45), (45, o_putI [6] 0 48), (48, o_inc 4 1 51), (51, o_go 3), (54, o_ret0 0 0)]
def T_X6_addDays : List oA → oM → oQ → Prop := oT tb_X6_addDays 5
set_option maxRecDepth 20000 in
theorem sn_X6_addDays_0 {p : Program} {l : Launch} {e : Env} {s : State} {m : MethodId} {args : Array Value} {below : List Frame} {meth : Method} {c : Code} {D : va_G} {ids : Nat → ClassId} {b : Nat} {Q : oQ} (C : oCx p s m args c cX6_addDays 5 (yX6_addDays).cls D ids b) (hr : meth.sig.returnType = none) (hlk : meth.locks = false) (hnm : meth.name = (yX6_addDays).name) : ∀ q ∈ tl_X6_addDays_0, oSn (oW p l e (oRm 0 0 0 0) s m args below meth c 5 D ids b (oMQ D ids b below Q args s 0 0)) Q q.1 q.2 := List.forall_mem_cons.mpr ⟨so_iconst C 0 rfl dX6_addDays_0, List.forall_mem_cons.mpr ⟨so_istore C 4 (by decide) dX6_addDays_1, List.forall_mem_cons.mpr ⟨so_iload C 4 dX6_addDays_3, List.forall_mem_cons.mpr ⟨so_iload_n C 2 rfl dX6_addDays_5, List.forall_mem_cons.mpr ⟨so_ic_ge C (by decide) dX6_addDays_6, List.forall_mem_cons.mpr ⟨so_aload_n C 0 rfl dX6_addDays_9, List.forall_mem_cons.mpr ⟨so_getI C [6] 0 (fd_RX6_27_6 C) (by decide) dX6_addDays_10, List.forall_mem_cons.mpr ⟨so_bipush C 10 rfl dX6_addDays_13, List.forall_mem_cons.mpr ⟨so_ic_ge C (by decide) dX6_addDays_15, List.forall_mem_cons.mpr ⟨so_aload_n C 0 rfl dX6_addDays_18, List.forall_mem_cons.mpr ⟨so_getR C [6] 3 (fd_RX6_15_6 C) (ft_6_3) dX6_addDays_19, List.forall_mem_cons.mpr ⟨so_aload_n C 0 rfl dX6_addDays_22, List.forall_mem_cons.mpr ⟨so_getI C [6] 0 (fd_RX6_27_6 C) (by decide) dX6_addDays_23, List.forall_mem_cons.mpr ⟨so_iload_n C 1 rfl dX6_addDays_26, List.forall_mem_cons.mpr ⟨so_iast C dX6_addDays_27, List.forall_mem_cons.mpr ⟨so_aload_n C 0 rfl dX6_addDays_28, List.forall_mem_cons.mpr ⟨so_getR C [6] 2 (fd_RX6_9_6 C) (ft_6_2) dX6_addDays_29, List.forall_mem_cons.mpr ⟨so_aload_n C 0 rfl dX6_addDays_32, List.forall_mem_cons.mpr ⟨so_getI C [6] 0 (fd_RX6_27_6 C) (by decide) dX6_addDays_33, List.forall_mem_cons.mpr ⟨so_iload_n C 3 rfl dX6_addDays_36, List.forall_mem_cons.mpr ⟨so_iast C dX6_addDays_37, List.forall_mem_cons.mpr ⟨so_aload_n C 0 rfl dX6_addDays_38, List.forall_mem_cons.mpr ⟨so_dup C dX6_addDays_39, List.forall_mem_cons.mpr ⟨so_getI C [6] 0 (fd_RX6_27_6 C) (by decide) dX6_addDays_40, fun _ h => absurd h List.not_mem_nil⟩⟩⟩⟩⟩⟩⟩⟩⟩⟩⟩⟩⟩⟩⟩⟩⟩⟩⟩⟩⟩⟩⟩⟩
set_option maxRecDepth 20000 in
theorem sn_X6_addDays_1 {p : Program} {l : Launch} {e : Env} {s : State} {m : MethodId} {args : Array Value} {below : List Frame} {meth : Method} {c : Code} {D : va_G} {ids : Nat → ClassId} {b : Nat} {Q : oQ} (C : oCx p s m args c cX6_addDays 5 (yX6_addDays).cls D ids b) (hr : meth.sig.returnType = none) (hlk : meth.locks = false) (hnm : meth.name = (yX6_addDays).name) : ∀ q ∈ tl_X6_addDays_1, oSn (oW p l e (oRm 0 0 0 0) s m args below meth c 5 D ids b (oMQ D ids b below Q args s 0 0)) Q q.1 q.2 := List.forall_mem_cons.mpr ⟨so_iconst C 1 rfl dX6_addDays_43, List.forall_mem_cons.mpr ⟨so_iadd C dX6_addDays_44, List.forall_mem_cons.mpr ⟨so_putI C [6] 0 (fd_RX6_27_6 C) (fn_6_0) (by decide) dX6_addDays_45, List.forall_mem_cons.mpr ⟨so_iinc C 4 1 (by decide) dX6_addDays_48, List.forall_mem_cons.mpr ⟨so_goto C (by decide) dX6_addDays_51, List.forall_mem_cons.mpr ⟨so_ret0 C 0 0 hr hlk dX6_addDays_54, fun _ h => absurd h List.not_mem_nil⟩⟩⟩⟩⟩⟩
set_option maxRecDepth 20000 in
theorem c_X6_addDays (l : Launch) (D : va_G) (ids : Nat → ClassId) : oMT l D ids yX6_addDays cX6_addDays 5 none 0 0 0 0 T_X6_addDays := oMet l D ids tb_X6_addDays (by decide) (fun p e s m args below meth c b Q C hr hlk hnm => oTab_all (tl_X6_addDays_0 ++ (tl_X6_addDays_1)) (List.forall_mem_append.mpr ⟨sn_X6_addDays_0 C hr hlk hnm, sn_X6_addDays_1 C hr hlk hnm⟩))
theorem dX6_goForward_0 : decode cX6_goForward 0 = .ok (.aload_n 0, 1) := by decide +kernel
theorem dX6_goForward_1 : decode cX6_goForward 1 = .ok (.iconst 0, 1) := by decide +kernel
theorem dX6_goForward_2 : decode cX6_goForward 2 = .ok (.putfield 27, 3) := by decide +kernel
theorem dX6_goForward_5 : decode cX6_goForward 5 = .ok (.aload_n 0, 1) := by decide +kernel
theorem dX6_goForward_6 : decode cX6_goForward 6 = .ok (.iconst 0, 1) := by decide +kernel
theorem dX6_goForward_7 : decode cX6_goForward 7 = .ok (.putfield 30, 3) := by decide +kernel
theorem dX6_goForward_10 : decode cX6_goForward 10 = .ok (.aload_n 0, 1) := by decide +kernel
theorem dX6_goForward_11 : decode cX6_goForward 11 = .ok (.iconst 1, 1) := by decide +kernel
theorem dX6_goForward_12 : decode cX6_goForward 12 = .ok (.iload_n 1, 1) := by decide +kernel
theorem dX6_goForward_13 : decode cX6_goForward 13 = .ok (.iload_n 2, 1) := by decide +kernel
theorem dX6_goForward_14 : decode cX6_goForward 14 = .ok (.invokevirtual 55, 3) := by decide +kernel
theorem dX6_goForward_17 : decode cX6_goForward 17 = .ok (.return_, 1) := by decide +kernel
abbrev tl_X6_goForward_0 : List (Nat × oOp) := [(0, o_ald 0 1), (1, o_push (vI 0) 2), (2, o_putI [6] 0 5), (5, o_ald 0 6), (6, o_push (vI 0) 7), (7, o_putI [6] 1 10), (10, o_ald 0 11), (11, o_push (vI 1) 12), (12, o_ild 1 13), (13, o_ild 2 14), (14, o_callo T_X6_addDays 6 3 0 0 0 0 17), (17, o_ret0 0 0)]
set_option maxRecDepth 20000 in
def tb_X6_goForward : Nat → oOp := oTab [(0, o_ald 0 1), (1, o_push (vI 0) 2), (2, o_putI [6] 0 5), (5, o_ald 0 6), (6, o_push (vI 0) 7), (7, o_putI [6] 1 10), (10, o_ald 0 11), (11, o_push (vI 1) 12), (12, o_ild 1 13), (13, o_ild 2 14), (14, o_callo T_X6_addDays 6 3 0 0 0 0 17), (17, o_ret0 0 0)]
def T_X6_goForward : List oA → oM → oQ → Prop := oT tb_X6_goForward 3
set_option maxRecDepth 20000 in
theorem sn_X6_goForward_0 {p : Program} {l : Launch} {e : Env} {s : State} {m : MethodId} {args : Array Value} {below : List Frame} {meth : Method} {c : Code} {D : va_G} {ids : Nat → ClassId} {b : Nat} {Q : oQ} (C : oCx p s m args c cX6_goForward 3 (yX6_goForward).cls D ids b) (hr : meth.sig.returnType = none) (hlk : meth.locks = false) (hnm : meth.name = (yX6_goForward).name) : ∀ q ∈ tl_X6_goForward_0, oSn (oW p l e (oRm 1 24 0 0) s m args below meth c 3 D ids b (oMQ D ids b below Q args s 0 0)) Q q.1 q.2 := List.forall_mem_cons.mpr ⟨so_aload_n C 0 rfl dX6_goForward_0, List.forall_mem_cons.mpr ⟨so_iconst C 0 rfl dX6_goForward_1, List.forall_mem_cons.mpr ⟨so_putI C [6] 0 (fd_RX6_27_6 C) (fn_6_0) (by decide) dX6_goForward_2, List.forall_mem_cons.mpr ⟨so_aload_n C 0 rfl dX6_goForward_5, List.forall_mem_cons.mpr ⟨so_iconst C 0 rfl dX6_goForward_6, List.forall_mem_cons.mpr ⟨so_putI C [6] 1 (fd_RX6_30_6 C) (fn_6_1) (by decide) dX6_goForward_7, List.forall_mem_cons.mpr ⟨so_aload_n C 0 rfl dX6_goForward_10, List.forall_mem_cons.mpr ⟨so_iconst C 1 rfl dX6_goForward_11, List.forall_mem_cons.mpr ⟨so_iload_n C 1 rfl dX6_goForward_12, List.forall_mem_cons.mpr ⟨so_iload_n C 2 rfl dX6_goForward_13, List.forall_mem_cons.mpr ⟨so_callV C (y := yX6_addDays) 6 3 0 0 (RX6, TX6, 5) (by decide) rfl rfl ⟨Nat.le_refl _, Nat.le_refl _⟩ (c_X6_addDays l D ids) kw_411 kw_408 kw_410 kp_4 kw_4 hy_X6_addDays ⟨Nat.le_of_ble_eq_true rfl, Nat.le_of_ble_eq_true rfl⟩ dX6_goForward_14, List.forall_mem_cons.mpr ⟨so_ret0 C 0 0 hr hlk dX6_goForward_17, fun _ h => absurd h List.not_mem_nil⟩⟩⟩⟩⟩⟩⟩⟩⟩⟩⟩⟩
set_option maxRecDepth 20000 in
theorem c_X6_goForward (l : Launch) (D : va_G) (ids : Nat → ClassId) : oMT l D ids yX6_goForward cX6_goForward 3 none 1 24 0 0 T_X6_goForward := oMet l D ids tb_X6_goForward (by decide) (fun p e s m args below meth c b Q C hr hlk hnm => oTab_all (tl_X6_goForward_0) (sn_X6_goForward_0 C hr hlk hnm))
theorem dX2_firstLack_0 : decode cX2_firstLack 0 = .ok (.aload_n 0, 1) := by decide +kernel
theorem dX2_firstLack_1 : decode cX2_firstLack 1 = .ok (.getfield 28, 3) := by decide +kernel
theorem dX2_firstLack_4 : decode cX2_firstLack 4 = .ok (.bipush 20, 2) := by decide +kernel
theorem dX2_firstLack_6 : decode cX2_firstLack 6 = .ok (.iconst 0, 1) := by decide +kernel
theorem dX2_firstLack_7 : decode cX2_firstLack 7 = .ok (.invokevirtual 32, 3) := by decide +kernel
theorem dX2_firstLack_10 : decode cX2_firstLack 10 = .ok (.aload_n 0, 1) := by decide +kernel
theorem dX2_firstLack_11 : decode cX2_firstLack 11 = .ok (.aload_n 1, 1) := by decide +kernel
theorem dX2_firstLack_12 : decode cX2_firstLack 12 = .ok (.aload_n 2, 1) := by decide +kernel
theorem dX2_firstLack_13 : decode cX2_firstLack 13 = .ok (.iload_n 3, 1) := by decide +kernel
theorem dX2_firstLack_14 : decode cX2_firstLack 14 = .ok (.iconst 0, 1) := by decide +kernel
theorem dX2_firstLack_15 : decode cX2_firstLack 15 = .ok (.invokevirtual 36, 3) := by decide +kernel
theorem dX2_firstLack_18 : decode cX2_firstLack 18 = .ok (.iconst 0, 1) := by decide +kernel
theorem dX2_firstLack_19 : decode cX2_firstLack 19 = .ok (.istore 5, 2) := by decide +kernel
theorem dX2_firstLack_21 : decode cX2_firstLack 21 = .ok (.iconst 0, 1) := by decide +kernel
theorem dX2_firstLack_22 : decode cX2_firstLack 22 = .ok (.istore 6, 2) := by decide +kernel
theorem dX2_firstLack_24 : decode cX2_firstLack 24 = .ok (.iload 6, 2) := by decide +kernel
theorem dX2_firstLack_26 : decode cX2_firstLack 26 = .ok (.aload_n 2, 1) := by decide +kernel
theorem dX2_firstLack_27 : decode cX2_firstLack 27 = .ok (.getfield 40, 3) := by decide +kernel
theorem dX2_firstLack_30 : decode cX2_firstLack 30 = .ok (.if_icmp .ge 67, 3) := by decide +kernel
theorem dX2_firstLack_33 : decode cX2_firstLack 33 = .ok (.iload 5, 2) := by decide +kernel
theorem dX2_firstLack_35 : decode cX2_firstLack 35 = .ok (.aload_n 2, 1) := by decide +kernel
theorem dX2_firstLack_36 : decode cX2_firstLack 36 = .ok (.getfield 46, 3) := by decide +kernel
theorem dX2_firstLack_39 : decode cX2_firstLack 39 = .ok (.iload 6, 2) := by decide +kernel
theorem dX2_firstLack_41 : decode cX2_firstLack 41 = .ok (.iaload, 1) := by decide +kernel
theorem dX2_firstLack_42 : decode cX2_firstLack 42 = .ok (.iadd, 1) := by decide +kernel
theorem dX2_firstLack_43 : decode cX2_firstLack 43 = .ok (.istore 5, 2) := by decide +kernel
theorem dX2_firstLack_45 : decode cX2_firstLack 45 = .ok (.aload_n 0, 1) := by decide +kernel
theorem dX2_firstLack_46 : decode cX2_firstLack 46 = .ok (.getfield 28, 3) := by decide +kernel
theorem dX2_firstLack_49 : decode cX2_firstLack 49 = .ok (.bipush 10, 2) := by decide +kernel
theorem dX2_firstLack_51 : decode cX2_firstLack 51 = .ok (.iload 6, 2) := by decide +kernel
theorem dX2_firstLack_53 : decode cX2_firstLack 53 = .ok (.iadd, 1) := by decide +kernel
theorem dX2_firstLack_54 : decode cX2_firstLack 54 = .ok (.iconst 1, 1) := by decide +kernel
theorem dX2_firstLack_55 : decode cX2_firstLack 55 = .ok (.aload_n 2, 1) := by decide +kernel
theorem dX2_firstLack_56 : decode cX2_firstLack 56 = .ok (.getfield 46, 3) := by decide +kernel
theorem dX2_firstLack_59 : decode cX2_firstLack 59 = .ok (.iload 6, 2) := by decide +kernel
theorem dX2_firstLack_61 : decode cX2_firstLack 61 = .ok (.iaload, 1) := by decide +kernel
theorem dX2_firstLack_62 : decode cX2_firstLack 62 = .ok (.iconst 0, 1) := by decide +kernel
theorem dX2_firstLack_63 : decode cX2_firstLack 63 = .ok (.invokevirtual 49, 3) := by decide +kernel
theorem dX2_firstLack_66 : decode cX2_firstLack 66 = .ok (.aload_n 0, 1) := by decide +kernel
theorem dX2_firstLack_67 : decode cX2_firstLack 67 = .ok (.getfield 28, 3) := by decide +kernel
theorem dX2_firstLack_70 : decode cX2_firstLack 70 = .ok (.invokevirtual 53, 3) := by decide +kernel
theorem dX2_firstLack_73 : decode cX2_firstLack 73 = .ok (.iload 5, 2) := by decide +kernel
theorem dX2_firstLack_75 : decode cX2_firstLack 75 = .ok (.aload_n 0, 1) := by decide +kernel
theorem dX2_firstLack_76 : decode cX2_firstLack 76 = .ok (.getfield 28, 3) := by decide +kernel
theorem dX2_firstLack_79 : decode cX2_firstLack 79 = .ok (.getfield 60, 3) := by decide +kernel
theorem dX2_firstLack_82 : decode cX2_firstLack 82 = .ok (.isub, 1) := by decide +kernel
theorem dX2_firstLack_83 : decode cX2_firstLack 83 = .ok (.iload 4, 2) := by decide +kernel
theorem dX2_firstLack_85 : decode cX2_firstLack 85 = .ok (.if_icmp .le 6, 3) := by decide +kernel
theorem dX2_firstLack_88 : decode cX2_firstLack 88 = .ok (.iload 6, 2) := by decide +kernel
theorem dX2_firstLack_90 : decode cX2_firstLack 90 = .ok (.ireturn, 1) := by decide +kernel
theorem dX2_firstLack_91 : decode cX2_firstLack 91 = .ok (.iinc 6 1, 3) := by decide +kernel
theorem dX2_firstLack_94 : decode cX2_firstLack 94 = .ok (.goto (-70), 3) := by decide +kernel
theorem dX2_firstLack_97 : decode cX2_firstLack 97 = .ok (.iconst (-1), 1) := by decide +kernel
theorem dX2_firstLack_98 : decode cX2_firstLack 98 = .ok (.ireturn, 1) := by decide +kernel
abbrev tl_X2_firstLack_0 : List (Nat × oOp) := [(0, o_ald 0 1), (1, o_getR [2] 3 4), (4, o_push (vI 20) 6), (6, o_push (vI 0) 7), (7, o_callo T_X7_clear 7 2 0 0 0 0 10), (10, o_ald 0 11), (11, o_ald 1 12), (12, o_ald 2 13), (13, o_ild 3 14), (14, o_push (vI 0) 15), (15, o_callo T_X2_lay 2 4 0 0 0 0 18), (18, o_push (vI 0) 19), (19, o_ist 5 21), (21, o_push (vI 0) 22), (22, o_ist 6 24), (24, o_ild 6 26), (26, o_ald 2 27), (27, o_getI [6] 0 30), (30, o_ic pGe 97 33), (33, o_ild 5 35), (35, o_ald 2 36), (36, o_getR [6] 2 39), (39, o_ild 6 41), (41, o_xald 13 42)]
abbrev tl_X2_firstLack_1 : List (Nat × oOp) := [(42, o_ib fAdd 43), (43, o_ist 5 45), (45, o_ald 0 46), (46, o_getR [2] 3 49), (49, o_push (vI 10) 51), (51, o_ild 6 53), (53, o_ib fAdd 54), (54, o_push (vI 1) 55), (55, o_ald 2 56), (56, o_getR [6] 2 59), (59, o_ild 6 61), (61, o_xald 13 62), (62, o_push (vI 0) 63), (63, o_callo T_X7_edge 7 4 0 0 0 0 66), (66, o_ald 0 67), (67, o_getR [2] 3 70), (70, o_callo T_X7_fill 7 0 0 0 0 0 73), (73, o_ild 5 75), (75, o_ald 0 76), (76, o_getR [2] 3 79), (79, o_getI [7] 11 82), (82, o_ib fSub 83), (83, o_ild 4 85), (85, o_ic pLe 91 88)]
abbrev tl_X2_firstLack_2 : List (Nat × oOp) := [(88, o_ild 6 90), (90, o_reti 0 0), (91, o_inc 6 1 94), (94, o_go 24), (97, o_push (vI (-1)) 98), (98, o_reti 0 0)]
set_option maxRecDepth 20000 in
def tb_X2_firstLack : Nat → oOp := oTab [(0, o_ald 0 1), (1, o_getR [2] 3 4), (4, o_push (vI 20) 6), (6, o_push (vI 0) 7), (7, o_callo T_X7_clear 7 2 0 0 0 0 10), (10, o_ald 0 11), (11, o_ald 1 12), (12, o_ald 2 13), (13, o_ild 3 14), (14, o_push (vI 0) 15), (15, o_callo T_X2_lay 2 4 0 0 0 0 18), (18, o_push (vI 0) 19), (19, o_ist 5 21), (21, o_push (vI 0) 22), (22, o_ist 6 24), (24, o_ild 6 26), (26, o_ald 2 27), (27, o_getI [6] 0 30), (30, o_ic pGe 97 33), (33, o_ild 5 35), (35, o_ald 2 36), (36, o_getR [6] 2 39), (39, o_ild 6 41), (41, o_xald 13 42), (42, o_ib fAdd 43), (43, o_ist 5 45), (45, o_ald 0 46), (46, o_getR [2] 3 49), (49, o_push (vI 10) 51), (51, o_ild 6 53), (53, o_ib fAdd 54), (54, o_push (vI 1) 55), (55, o_ald 2 56), (56, o_getR [6] 2 59), (59, o_ild 6 61), (61, o_xald 13 62), (62, o_push (vI 0) 63), (63, o_callo T_X7_edge 7 4 0 0 0 0 66), (66, o_ald 0 67), (67, o_getR [2] 3 70), (70, o_callo T_X7_fill 7 0 0 0 0 0 73), (73, o_ild 5 75), (75, o_ald 0 76), (76, o_getR [2] 3 79), (79, o_getI [7] 11 82), (82, o_ib fSub 83), (83, o_ild 4 85), (85, o_ic pLe 91 88), (88, o_ild 6 90), (90, o_reti 0 0), (91, o_inc 6 1 94), (94, o_go 24), (97, o_push (vI (-1)) 98), (98, o_reti 0 0)]
def T_X2_firstLack : List oA → oM → oQ → Prop := oT tb_X2_firstLack 7
set_option maxRecDepth 20000 in
theorem sn_X2_firstLack_0 {p : Program} {l : Launch} {e : Env} {s : State} {m : MethodId} {args : Array Value} {below : List Frame} {meth : Method} {c : Code} {D : va_G} {ids : Nat → ClassId} {b : Nat} {Q : oQ} (C : oCx p s m args c cX2_firstLack 7 (yX2_firstLack).cls D ids b) (hr : meth.sig.returnType = (some .int)) (hlk : meth.locks = false) (hnm : meth.name = (yX2_firstLack).name) : ∀ q ∈ tl_X2_firstLack_0, oSn (oW p l e (oRm 3 83 0 0) s m args below meth c 7 D ids b (oMQ D ids b below Q args s 0 0)) Q q.1 q.2 := List.forall_mem_cons.mpr ⟨so_aload_n C 0 rfl dX2_firstLack_0, List.forall_mem_cons.mpr ⟨so_getR C [2] 3 (fd_RX2_28_2 C) (ft_2_3) dX2_firstLack_1, List.forall_mem_cons.mpr ⟨so_bipush C 20 rfl dX2_firstLack_4, List.forall_mem_cons.mpr ⟨so_iconst C 0 rfl dX2_firstLack_6, List.forall_mem_cons.mpr ⟨so_callV C (y := yX7_clear) 7 2 0 0 (RX7, TX7, 14) (by decide) rfl rfl ⟨Nat.le_refl _, Nat.le_refl _⟩ (c_X7_clear l D ids) kw_588 kw_585 kw_586 kw_587 kw_9 hy_X7_clear ⟨Nat.le_of_ble_eq_true rfl, Nat.le_of_ble_eq_true rfl⟩ dX2_firstLack_7, List.forall_mem_cons.mpr ⟨so_aload_n C 0 rfl dX2_firstLack_10, List.forall_mem_cons.mpr ⟨so_aload_n C 1 rfl dX2_firstLack_11, List.forall_mem_cons.mpr ⟨so_aload_n C 2 rfl dX2_firstLack_12, List.forall_mem_cons.mpr ⟨so_iload_n C 3 rfl dX2_firstLack_13, List.forall_mem_cons.mpr ⟨so_iconst C 0 rfl dX2_firstLack_14, List.forall_mem_cons.mpr ⟨so_callV C (y := yX2_lay) 2 4 0 0 (RX2, TX2, 6) (by decide) rfl rfl ⟨Nat.le_refl _, Nat.le_refl _⟩ (c_X2_lay l D ids) kw_594 kw_591 kw_593 kp_13 kw_7 hy_X2_lay ⟨Nat.le_of_ble_eq_true rfl, Nat.le_of_ble_eq_true rfl⟩ dX2_firstLack_15, List.forall_mem_cons.mpr ⟨so_iconst C 0 rfl dX2_firstLack_18, List.forall_mem_cons.mpr ⟨so_istore C 5 (by decide) dX2_firstLack_19, List.forall_mem_cons.mpr ⟨so_iconst C 0 rfl dX2_firstLack_21, List.forall_mem_cons.mpr ⟨so_istore C 6 (by decide) dX2_firstLack_22, List.forall_mem_cons.mpr ⟨so_iload C 6 dX2_firstLack_24, List.forall_mem_cons.mpr ⟨so_aload_n C 2 rfl dX2_firstLack_26, List.forall_mem_cons.mpr ⟨so_getI C [6] 0 (fd_RX2_40_6 C) (by decide) dX2_firstLack_27, List.forall_mem_cons.mpr ⟨so_ic_ge C (by decide) dX2_firstLack_30, List.forall_mem_cons.mpr ⟨so_iload C 5 dX2_firstLack_33, List.forall_mem_cons.mpr ⟨so_aload_n C 2 rfl dX2_firstLack_35, List.forall_mem_cons.mpr ⟨so_getR C [6] 2 (fd_RX2_46_6 C) (ft_6_2) dX2_firstLack_36, List.forall_mem_cons.mpr ⟨so_iload C 6 dX2_firstLack_39, List.forall_mem_cons.mpr ⟨so_iald C dX2_firstLack_41, fun _ h => absurd h List.not_mem_nil⟩⟩⟩⟩⟩⟩⟩⟩⟩⟩⟩⟩⟩⟩⟩⟩⟩⟩⟩⟩⟩⟩⟩⟩
set_option maxRecDepth 20000 in
theorem sn_X2_firstLack_1 {p : Program} {l : Launch} {e : Env} {s : State} {m : MethodId} {args : Array Value} {below : List Frame} {meth : Method} {c : Code} {D : va_G} {ids : Nat → ClassId} {b : Nat} {Q : oQ} (C : oCx p s m args c cX2_firstLack 7 (yX2_firstLack).cls D ids b) (hr : meth.sig.returnType = (some .int)) (hlk : meth.locks = false) (hnm : meth.name = (yX2_firstLack).name) : ∀ q ∈ tl_X2_firstLack_1, oSn (oW p l e (oRm 3 83 0 0) s m args below meth c 7 D ids b (oMQ D ids b below Q args s 0 0)) Q q.1 q.2 := List.forall_mem_cons.mpr ⟨so_iadd C dX2_firstLack_42, List.forall_mem_cons.mpr ⟨so_istore C 5 (by decide) dX2_firstLack_43, List.forall_mem_cons.mpr ⟨so_aload_n C 0 rfl dX2_firstLack_45, List.forall_mem_cons.mpr ⟨so_getR C [2] 3 (fd_RX2_28_2 C) (ft_2_3) dX2_firstLack_46, List.forall_mem_cons.mpr ⟨so_bipush C 10 rfl dX2_firstLack_49, List.forall_mem_cons.mpr ⟨so_iload C 6 dX2_firstLack_51, List.forall_mem_cons.mpr ⟨so_iadd C dX2_firstLack_53, List.forall_mem_cons.mpr ⟨so_iconst C 1 rfl dX2_firstLack_54, List.forall_mem_cons.mpr ⟨so_aload_n C 2 rfl dX2_firstLack_55, List.forall_mem_cons.mpr ⟨so_getR C [6] 2 (fd_RX2_46_6 C) (ft_6_2) dX2_firstLack_56, List.forall_mem_cons.mpr ⟨so_iload C 6 dX2_firstLack_59, List.forall_mem_cons.mpr ⟨so_iald C dX2_firstLack_61, List.forall_mem_cons.mpr ⟨so_iconst C 0 rfl dX2_firstLack_62, List.forall_mem_cons.mpr ⟨so_callV C (y := yX7_edge) 7 4 0 0 (RX7, TX7, 14) (by decide) rfl rfl ⟨Nat.le_refl _, Nat.le_refl _⟩ (c_X7_edge l D ids) kw_606 kw_603 kw_604 kw_605 kw_9 hy_X7_edge ⟨Nat.le_of_ble_eq_true rfl, Nat.le_of_ble_eq_true rfl⟩ dX2_firstLack_63, List.forall_mem_cons.mpr ⟨so_aload_n C 0 rfl dX2_firstLack_66, List.forall_mem_cons.mpr ⟨so_getR C [2] 3 (fd_RX2_28_2 C) (ft_2_3) dX2_firstLack_67, List.forall_mem_cons.mpr ⟨so_callV C (y := yX7_fill) 7 0 0 0 (RX7, TX7, 14) (by decide) rfl rfl ⟨Nat.le_refl _, Nat.le_refl _⟩ (c_X7_fill l D ids) kw_617 kw_614 kw_615 kw_616 kw_9 hy_X7_fill ⟨Nat.le_of_ble_eq_true rfl, Nat.le_of_ble_eq_true rfl⟩ dX2_firstLack_70, List.forall_mem_cons.mpr ⟨so_iload C 5 dX2_firstLack_73, List.forall_mem_cons.mpr ⟨so_aload_n C 0 rfl dX2_firstLack_75, List.forall_mem_cons.mpr ⟨so_getR C [2] 3 (fd_RX2_28_2 C) (ft_2_3) dX2_firstLack_76, List.forall_mem_cons.mpr ⟨so_getI C [7] 11 (fd_RX2_60_7 C) (by decide) dX2_firstLack_79, List.forall_mem_cons.mpr ⟨so_isub C dX2_firstLack_82, List.forall_mem_cons.mpr ⟨so_iload C 4 dX2_firstLack_83, List.forall_mem_cons.mpr ⟨so_ic_le C (by decide) dX2_firstLack_85, fun _ h => absurd h List.not_mem_nil⟩⟩⟩⟩⟩⟩⟩⟩⟩⟩⟩⟩⟩⟩⟩⟩⟩⟩⟩⟩⟩⟩⟩⟩
set_option maxRecDepth 20000 in
theorem sn_X2_firstLack_2 {p : Program} {l : Launch} {e : Env} {s : State} {m : MethodId} {args : Array Value} {below : List Frame} {meth : Method} {c : Code} {D : va_G} {ids : Nat → ClassId} {b : Nat} {Q : oQ} (C : oCx p s m args c cX2_firstLack 7 (yX2_firstLack).cls D ids b) (hr : meth.sig.returnType = (some .int)) (hlk : meth.locks = false) (hnm : meth.name = (yX2_firstLack).name) : ∀ q ∈ tl_X2_firstLack_2, oSn (oW p l e (oRm 3 83 0 0) s m args below meth c 7 D ids b (oMQ D ids b below Q args s 0 0)) Q q.1 q.2 := List.forall_mem_cons.mpr ⟨so_iload C 6 dX2_firstLack_88, List.forall_mem_cons.mpr ⟨so_reti C 0 0 hr hlk dX2_firstLack_90, List.forall_mem_cons.mpr ⟨so_iinc C 6 1 (by decide) dX2_firstLack_91, List.forall_mem_cons.mpr ⟨so_goto C (by decide) dX2_firstLack_94, List.forall_mem_cons.mpr ⟨so_iconst C (-1) rfl dX2_firstLack_97, List.forall_mem_cons.mpr ⟨so_reti C 0 0 hr hlk dX2_firstLack_98, fun _ h => absurd h List.not_mem_nil⟩⟩⟩⟩⟩⟩
set_option maxRecDepth 20000 in
theorem c_X2_firstLack (l : Launch) (D : va_G) (ids : Nat → ClassId) : oMT l D ids yX2_firstLack cX2_firstLack 7 (some .int) 3 83 0 0 T_X2_firstLack := oMet l D ids tb_X2_firstLack (by decide) (fun p e s m args below meth c b Q C hr hlk hnm => oTab_all (tl_X2_firstLack_0 ++ (tl_X2_firstLack_1 ++ (tl_X2_firstLack_2))) (List.forall_mem_append.mpr ⟨sn_X2_firstLack_0 C hr hlk hnm, List.forall_mem_append.mpr ⟨sn_X2_firstLack_1 C hr hlk hnm, sn_X2_firstLack_2 C hr hlk hnm⟩⟩))
theorem dX4_readPlaces_0 : decode cX4_readPlaces 0 = .ok (.aload_n 0, 1) := by decide +kernel
theorem dX4_readPlaces_1 : decode cX4_readPlaces 1 = .ok (.iconst 0, 1) := by decide +kernel
theorem dX4_readPlaces_2 : decode cX4_readPlaces 2 = .ok (.putfield 18, 3) := by decide +kernel
theorem dX4_readPlaces_5 : decode cX4_readPlaces 5 = .ok (.iconst 0, 1) := by decide +kernel
theorem dX4_readPlaces_6 : decode cX4_readPlaces 6 = .ok (.istore_n 2, 1) := by decide +kernel
theorem dX4_readPlaces_7 : decode cX4_readPlaces 7 = .ok (.iload_n 2, 1) := by decide +kernel
theorem dX4_readPlaces_8 : decode cX4_readPlaces 8 = .ok (.bipush 8, 2) := by decide +kernel
theorem dX4_readPlaces_10 : decode cX4_readPlaces 10 = .ok (.if_icmp .ge 72, 3) := by decide +kernel
theorem dX4_readPlaces_13 : decode cX4_readPlaces 13 = .ok (.iload_n 2, 1) := by decide +kernel
theorem dX4_readPlaces_14 : decode cX4_readPlaces 14 = .ok (.ifCond .le 15, 3) := by decide +kernel
theorem dX4_readPlaces_17 : decode cX4_readPlaces 17 = .ok (.aload_n 1, 1) := by decide +kernel
theorem dX4_readPlaces_18 : decode cX4_readPlaces 18 = .ok (.bipush 44, 2) := by decide +kernel
theorem dX4_readPlaces_20 : decode cX4_readPlaces 20 = .ok (.invokevirtual 44, 3) := by decide +kernel
theorem dX4_readPlaces_23 : decode cX4_readPlaces 23 = .ok (.ifCond .ne 6, 3) := by decide +kernel
theorem dX4_readPlaces_26 : decode cX4_readPlaces 26 = .ok (.goto 56, 3) := by decide +kernel
theorem dX4_readPlaces_29 : decode cX4_readPlaces 29 = .ok (.aload_n 1, 1) := by decide +kernel
theorem dX4_readPlaces_30 : decode cX4_readPlaces 30 = .ok (.iconst 0, 1) := by decide +kernel
theorem dX4_readPlaces_31 : decode cX4_readPlaces 31 = .ok (.iconst 3, 1) := by decide +kernel
theorem dX4_readPlaces_32 : decode cX4_readPlaces 32 = .ok (.invokevirtual 48, 3) := by decide +kernel
theorem dX4_readPlaces_35 : decode cX4_readPlaces 35 = .ok (.istore_n 3, 1) := by decide +kernel
theorem dX4_readPlaces_36 : decode cX4_readPlaces 36 = .ok (.iload_n 3, 1) := by decide +kernel
theorem dX4_readPlaces_37 : decode cX4_readPlaces 37 = .ok (.ifCond .ge 5, 3) := by decide +kernel
theorem dX4_readPlaces_40 : decode cX4_readPlaces 40 = .ok (.iconst 0, 1) := by decide +kernel
theorem dX4_readPlaces_41 : decode cX4_readPlaces 41 = .ok (.ireturn, 1) := by decide +kernel
theorem dX4_readPlaces_42 : decode cX4_readPlaces 42 = .ok (.aload_n 0, 1) := by decide +kernel
theorem dX4_readPlaces_43 : decode cX4_readPlaces 43 = .ok (.getfield 9, 3) := by decide +kernel
theorem dX4_readPlaces_46 : decode cX4_readPlaces 46 = .ok (.iload_n 2, 1) := by decide +kernel
theorem dX4_readPlaces_47 : decode cX4_readPlaces 47 = .ok (.iload_n 3, 1) := by decide +kernel
theorem dX4_readPlaces_48 : decode cX4_readPlaces 48 = .ok (.iastore, 1) := by decide +kernel
theorem dX4_readPlaces_49 : decode cX4_readPlaces 49 = .ok (.aload_n 0, 1) := by decide +kernel
theorem dX4_readPlaces_50 : decode cX4_readPlaces 50 = .ok (.getfield 15, 3) := by decide +kernel
theorem dX4_readPlaces_53 : decode cX4_readPlaces 53 = .ok (.iload_n 2, 1) := by decide +kernel
theorem dX4_readPlaces_54 : decode cX4_readPlaces 54 = .ok (.aload_n 1, 1) := by decide +kernel
theorem dX4_readPlaces_55 : decode cX4_readPlaces 55 = .ok (.bipush 119, 2) := by decide +kernel
theorem dX4_readPlaces_57 : decode cX4_readPlaces 57 = .ok (.invokevirtual 44, 3) := by decide +kernel
theorem dX4_readPlaces_60 : decode cX4_readPlaces 60 = .ok (.ifCond .eq 7, 3) := by decide +kernel
theorem dX4_readPlaces_63 : decode cX4_readPlaces 63 = .ok (.iconst 1, 1) := by decide +kernel
theorem dX4_readPlaces_64 : decode cX4_readPlaces 64 = .ok (.goto 4, 3) := by decide +kernel
theorem dX4_readPlaces_67 : decode cX4_readPlaces 67 = .ok (.iconst 0, 1) := by decide +kernel
theorem dX4_readPlaces_68 : decode cX4_readPlaces 68 = .ok (.iastore, 1) := by decide +kernel
theorem dX4_readPlaces_69 : decode cX4_readPlaces 69 = .ok (.aload_n 0, 1) := by decide +kernel
theorem dX4_readPlaces_70 : decode cX4_readPlaces 70 = .ok (.iload_n 2, 1) := by decide +kernel
theorem dX4_readPlaces_71 : decode cX4_readPlaces 71 = .ok (.iconst 1, 1) := by decide +kernel
theorem dX4_readPlaces_72 : decode cX4_readPlaces 72 = .ok (.iadd, 1) := by decide +kernel
theorem dX4_readPlaces_73 : decode cX4_readPlaces 73 = .ok (.putfield 18, 3) := by decide +kernel
theorem dX4_readPlaces_76 : decode cX4_readPlaces 76 = .ok (.iinc 2 1, 3) := by decide +kernel
theorem dX4_readPlaces_79 : decode cX4_readPlaces 79 = .ok (.goto (-72), 3) := by decide +kernel
theorem dX4_readPlaces_82 : decode cX4_readPlaces 82 = .ok (.aload_n 0, 1) := by decide +kernel
theorem dX4_readPlaces_83 : decode cX4_readPlaces 83 = .ok (.getfield 18, 3) := by decide +kernel
theorem dX4_readPlaces_86 : decode cX4_readPlaces 86 = .ok (.iconst 2, 1) := by decide +kernel
theorem dX4_readPlaces_87 : decode cX4_readPlaces 87 = .ok (.if_icmp .lt 7, 3) := by decide +kernel
theorem dX4_readPlaces_90 : decode cX4_readPlaces 90 = .ok (.iconst 1, 1) := by decide +kernel
theorem dX4_readPlaces_91 : decode cX4_readPlaces 91 = .ok (.goto 4, 3) := by decide +kernel
theorem dX4_readPlaces_94 : decode cX4_readPlaces 94 = .ok (.iconst 0, 1) := by decide +kernel
theorem dX4_readPlaces_95 : decode cX4_readPlaces 95 = .ok (.ireturn, 1) := by decide +kernel
abbrev tl_X4_readPlaces_0 : List (Nat × oOp) := [(0, o_ald 0 1), (1, o_push (vI 0) 2), (2, o_putI [4] 0 5), (5, o_push (vI 0) 6), (6, o_ist 2 7), (7, o_ild 2 8), (8, o_push (vI 8) 10), (10, o_ic pGe 82 13), (13, o_ild 2 14), (14, o_if zLe 29 17), (17, o_ald 1 18), (18, o_push (vI 44) 20), (20, o_callo T_X8_take 8 1 0 0 0 0 23), (23, o_if zNe 29 26), (26, o_go 82), (29, o_ald 1 30), (30, o_push (vI 0) 31), (31, o_push (vI 3) 32), (32, o_callo T_X8_number 8 2 0 0 0 0 35), (35, o_ist 3 36), (36, o_ild 3 37), (37, o_if zGe 42 40), (40, o_push (vI 0) 41), (41, o_retz 0 0)]
abbrev tl_X4_readPlaces_1 : List (Nat × oOp) := [(42, o_ald 0 43), (43, o_getR [4] 1 46), (46, o_ild 2 47), (47, o_ild 3 48), (48, o_iast 49), (49, o_ald 0 50), (50, o_getR [4] 2 53), (53, o_ild 2 54), (54, o_ald 1 55), (55, o_push (vI 119) 57), (57, o_callo T_X8_take 8 1 0 0 0 0 60), (60, o_if zEq 67 63), (63, o_push (vI 1) 64), (64, o_go 68), (67, o_push (vI 0) 68), (68, o_iast 69), (69, o_ald 0 70), (70, o_ild 2 71), (71, o_push (vI 1) 72), (72, o_ib fAdd 73), (73, o_putI [4] 0 76), (76, o_inc 2 1 79), (79, o_go 7), (82, o_ald 0 83)]
abbrev tl_X4_readPlaces_2 : List (Nat × oOp) := [(83, o_getI [4] 0 86), (86, o_push (vI 2) 87), (87, o_ic pLt 94 90), (90, o_push (vI 1) 91), (91, o_go 95), (94, o_push (vI 0) 95), (95, o_retz 0 0)]
set_option maxRecDepth 20000 in
def tb_X4_readPlaces : Nat → oOp := oTab [(0, o_ald 0 1), (1, o_push (vI 0) 2), (2, o_putI [4] 0 5), (5, o_push (vI 0) 6), (6, o_ist 2 7), (7, o_ild 2 8), (8, o_push (vI 8) 10), (10, o_ic pGe 82 13), (13, o_ild 2 14), (14, o_if zLe 29 17), (17, o_ald 1 18), (18, o_push (vI 44) 20), (20, o_callo T_X8_take 8 1 0 0 0 0 23), (23, o_if zNe 29 26), (26, o_go 82), (29, o_ald 1 30), (30, o_push (vI 0) 31), (31, o_push (vI 3) 32), (32, o_callo T_X8_number 8 2 0 0 0 0 35), (35, o_ist 3 36), (36, o_ild 3 37), (37, o_if zGe 42 40), (40, o_push (vI 0) 41), (41, o_retz 0 0), (42, o_ald 0 43), (43, o_getR [4] 1 46), (46, o_ild 2 47), (47, o_ild 3 48), (48, o_iast 49), (49, o_ald 0 50), (50, o_getR [4] 2 53), (53, o_ild 2 54), (54, o_ald 1 55), (55, o_push (vI 119) 57), (57, o_callo T_X8_take 8 1 0 0 0 0 60), (60, o_if zEq 67 63), (63, o_push (vI 1) 64), (64, o_go 68), (67, o_push (vI 0) 68), (68, o_iast 69), (69, o_ald 0 70), (70, o_ild 2 71), (71, o_push (vI 1) 72), (72, o_ib fAdd 73), (73, o_putI [4] 0 76), (76, o_inc 2 1 79), (79, o_go 7), (82, o_ald 0 83), (83, o_getI [4] 0 86), (86, o_push (vI 2) 87), (87, o_ic pLt 94 90), (90, o_push (vI 1) 91), (91, o_go 95), (94, o_push (vI 0) 95), (95, o_retz 0 0)]
def T_X4_readPlaces : List oA → oM → oQ → Prop := oT tb_X4_readPlaces 4
set_option maxRecDepth 20000 in
theorem sn_X4_readPlaces_0 {p : Program} {l : Launch} {e : Env} {s : State} {m : MethodId} {args : Array Value} {below : List Frame} {meth : Method} {c : Code} {D : va_G} {ids : Nat → ClassId} {b : Nat} {Q : oQ} (C : oCx p s m args c cX4_readPlaces 4 (yX4_readPlaces).cls D ids b) (hr : meth.sig.returnType = (some .boolean)) (hlk : meth.locks = false) (hnm : meth.name = (yX4_readPlaces).name) : ∀ q ∈ tl_X4_readPlaces_0, oSn (oW p l e (oRm 3 68 0 0) s m args below meth c 4 D ids b (oMQ D ids b below Q args s 0 0)) Q q.1 q.2 := List.forall_mem_cons.mpr ⟨so_aload_n C 0 rfl dX4_readPlaces_0, List.forall_mem_cons.mpr ⟨so_iconst C 0 rfl dX4_readPlaces_1, List.forall_mem_cons.mpr ⟨so_putI C [4] 0 (fd_RX4_18_4 C) (fn_4_0) (by decide) dX4_readPlaces_2, List.forall_mem_cons.mpr ⟨so_iconst C 0 rfl dX4_readPlaces_5, List.forall_mem_cons.mpr ⟨so_istore_n C 2 rfl (by decide) dX4_readPlaces_6, List.forall_mem_cons.mpr ⟨so_iload_n C 2 rfl dX4_readPlaces_7, List.forall_mem_cons.mpr ⟨so_bipush C 8 rfl dX4_readPlaces_8, List.forall_mem_cons.mpr ⟨so_ic_ge C (by decide) dX4_readPlaces_10, List.forall_mem_cons.mpr ⟨so_iload_n C 2 rfl dX4_readPlaces_13, List.forall_mem_cons.mpr ⟨so_if_le C (by decide) dX4_readPlaces_14, List.forall_mem_cons.mpr ⟨so_aload_n C 1 rfl dX4_readPlaces_17, List.forall_mem_cons.mpr ⟨so_bipush C 44 rfl dX4_readPlaces_18, List.forall_mem_cons.mpr ⟨so_callV C (y := yX8_take) 8 1 0 0 (RX8, TX8, 3) (by decide) rfl rfl ⟨Nat.le_refl _, Nat.le_refl _⟩ (c_X8_take l D ids) kw_374 kw_371 kw_372 kw_373 kw_2 hy_X8_take ⟨Nat.le_of_ble_eq_true rfl, Nat.le_of_ble_eq_true rfl⟩ dX4_readPlaces_20, List.forall_mem_cons.mpr ⟨so_if_ne C (by decide) dX4_readPlaces_23, List.forall_mem_cons.mpr ⟨so_goto C (by decide) dX4_readPlaces_26, List.forall_mem_cons.mpr ⟨so_aload_n C 1 rfl dX4_readPlaces_29, List.forall_mem_cons.mpr ⟨so_iconst C 0 rfl dX4_readPlaces_30, List.forall_mem_cons.mpr ⟨so_iconst C 3 rfl dX4_readPlaces_31, List.forall_mem_cons.mpr ⟨so_callV C (y := yX8_number) 8 2 0 0 (RX8, TX8, 3) (by decide) rfl rfl ⟨Nat.le_refl _, Nat.le_refl _⟩ (c_X8_number l D ids) kw_382 kw_379 kw_380 kw_381 kw_2 hy_X8_number ⟨Nat.le_of_ble_eq_true rfl, Nat.le_of_ble_eq_true rfl⟩ dX4_readPlaces_32, List.forall_mem_cons.mpr ⟨so_istore_n C 3 rfl (by decide) dX4_readPlaces_35, List.forall_mem_cons.mpr ⟨so_iload_n C 3 rfl dX4_readPlaces_36, List.forall_mem_cons.mpr ⟨so_if_ge C (by decide) dX4_readPlaces_37, List.forall_mem_cons.mpr ⟨so_iconst C 0 rfl dX4_readPlaces_40, List.forall_mem_cons.mpr ⟨so_retz C 0 0 hr hlk dX4_readPlaces_41, fun _ h => absurd h List.not_mem_nil⟩⟩⟩⟩⟩⟩⟩⟩⟩⟩⟩⟩⟩⟩⟩⟩⟩⟩⟩⟩⟩⟩⟩⟩
set_option maxRecDepth 20000 in
theorem sn_X4_readPlaces_1 {p : Program} {l : Launch} {e : Env} {s : State} {m : MethodId} {args : Array Value} {below : List Frame} {meth : Method} {c : Code} {D : va_G} {ids : Nat → ClassId} {b : Nat} {Q : oQ} (C : oCx p s m args c cX4_readPlaces 4 (yX4_readPlaces).cls D ids b) (hr : meth.sig.returnType = (some .boolean)) (hlk : meth.locks = false) (hnm : meth.name = (yX4_readPlaces).name) : ∀ q ∈ tl_X4_readPlaces_1, oSn (oW p l e (oRm 3 68 0 0) s m args below meth c 4 D ids b (oMQ D ids b below Q args s 0 0)) Q q.1 q.2 := List.forall_mem_cons.mpr ⟨so_aload_n C 0 rfl dX4_readPlaces_42, List.forall_mem_cons.mpr ⟨so_getR C [4] 1 (fd_RX4_9_4 C) (ft_4_1) dX4_readPlaces_43, List.forall_mem_cons.mpr ⟨so_iload_n C 2 rfl dX4_readPlaces_46, List.forall_mem_cons.mpr ⟨so_iload_n C 3 rfl dX4_readPlaces_47, List.forall_mem_cons.mpr ⟨so_iast C dX4_readPlaces_48, List.forall_mem_cons.mpr ⟨so_aload_n C 0 rfl dX4_readPlaces_49, List.forall_mem_cons.mpr ⟨so_getR C [4] 2 (fd_RX4_15_4 C) (ft_4_2) dX4_readPlaces_50, List.forall_mem_cons.mpr ⟨so_iload_n C 2 rfl dX4_readPlaces_53, List.forall_mem_cons.mpr ⟨so_aload_n C 1 rfl dX4_readPlaces_54, List.forall_mem_cons.mpr ⟨so_bipush C 119 rfl dX4_readPlaces_55, List.forall_mem_cons.mpr ⟨so_callV C (y := yX8_take) 8 1 0 0 (RX8, TX8, 3) (by decide) rfl rfl ⟨Nat.le_refl _, Nat.le_refl _⟩ (c_X8_take l D ids) kw_374 kw_371 kw_372 kw_373 kw_2 hy_X8_take ⟨Nat.le_of_ble_eq_true rfl, Nat.le_of_ble_eq_true rfl⟩ dX4_readPlaces_57, List.forall_mem_cons.mpr ⟨so_if_eq C (by decide) dX4_readPlaces_60, List.forall_mem_cons.mpr ⟨so_iconst C 1 rfl dX4_readPlaces_63, List.forall_mem_cons.mpr ⟨so_goto C (by decide) dX4_readPlaces_64, List.forall_mem_cons.mpr ⟨so_iconst C 0 rfl dX4_readPlaces_67, List.forall_mem_cons.mpr ⟨so_iast C dX4_readPlaces_68, List.forall_mem_cons.mpr ⟨so_aload_n C 0 rfl dX4_readPlaces_69, List.forall_mem_cons.mpr ⟨so_iload_n C 2 rfl dX4_readPlaces_70, List.forall_mem_cons.mpr ⟨so_iconst C 1 rfl dX4_readPlaces_71, List.forall_mem_cons.mpr ⟨so_iadd C dX4_readPlaces_72, List.forall_mem_cons.mpr ⟨so_putI C [4] 0 (fd_RX4_18_4 C) (fn_4_0) (by decide) dX4_readPlaces_73, List.forall_mem_cons.mpr ⟨so_iinc C 2 1 (by decide) dX4_readPlaces_76, List.forall_mem_cons.mpr ⟨so_goto C (by decide) dX4_readPlaces_79, List.forall_mem_cons.mpr ⟨so_aload_n C 0 rfl dX4_readPlaces_82, fun _ h => absurd h List.not_mem_nil⟩⟩⟩⟩⟩⟩⟩⟩⟩⟩⟩⟩⟩⟩⟩⟩⟩⟩⟩⟩⟩⟩⟩⟩
set_option maxRecDepth 20000 in
theorem sn_X4_readPlaces_2 {p : Program} {l : Launch} {e : Env} {s : State} {m : MethodId} {args : Array Value} {below : List Frame} {meth : Method} {c : Code} {D : va_G} {ids : Nat → ClassId} {b : Nat} {Q : oQ} (C : oCx p s m args c cX4_readPlaces 4 (yX4_readPlaces).cls D ids b) (hr : meth.sig.returnType = (some .boolean)) (hlk : meth.locks = false) (hnm : meth.name = (yX4_readPlaces).name) : ∀ q ∈ tl_X4_readPlaces_2, oSn (oW p l e (oRm 3 68 0 0) s m args below meth c 4 D ids b (oMQ D ids b below Q args s 0 0)) Q q.1 q.2 := List.forall_mem_cons.mpr ⟨so_getI C [4] 0 (fd_RX4_18_4 C) (by decide) dX4_readPlaces_83, List.forall_mem_cons.mpr ⟨so_iconst C 2 rfl dX4_readPlaces_86, List.forall_mem_cons.mpr ⟨so_ic_lt C (by decide) dX4_readPlaces_87, List.forall_mem_cons.mpr ⟨so_iconst C 1 rfl dX4_readPlaces_90, List.forall_mem_cons.mpr ⟨so_goto C (by decide) dX4_readPlaces_91, List.forall_mem_cons.mpr ⟨so_iconst C 0 rfl dX4_readPlaces_94, List.forall_mem_cons.mpr ⟨so_retz C 0 0 hr hlk dX4_readPlaces_95, fun _ h => absurd h List.not_mem_nil⟩⟩⟩⟩⟩⟩⟩
set_option maxRecDepth 20000 in
theorem c_X4_readPlaces (l : Launch) (D : va_G) (ids : Nat → ClassId) : oMT l D ids yX4_readPlaces cX4_readPlaces 4 (some .boolean) 3 68 0 0 T_X4_readPlaces := oMet l D ids tb_X4_readPlaces (by decide) (fun p e s m args below meth c b Q C hr hlk hnm => oTab_all (tl_X4_readPlaces_0 ++ (tl_X4_readPlaces_1 ++ (tl_X4_readPlaces_2))) (List.forall_mem_append.mpr ⟨sn_X4_readPlaces_0 C hr hlk hnm, List.forall_mem_append.mpr ⟨sn_X4_readPlaces_1 C hr hlk hnm, sn_X4_readPlaces_2 C hr hlk hnm⟩⟩))
theorem dX4_readOvens_0 : decode cX4_readOvens 0 = .ok (.aload_n 1, 1) := by decide +kernel
theorem dX4_readOvens_1 : decode cX4_readOvens 1 = .ok (.bipush 59, 2) := by decide +kernel
theorem dX4_readOvens_3 : decode cX4_readOvens 3 = .ok (.invokevirtual 44, 3) := by decide +kernel
theorem dX4_readOvens_6 : decode cX4_readOvens 6 = .ok (.ifCond .eq 12, 3) := by decide +kernel
theorem dX4_readOvens_9 : decode cX4_readOvens 9 = .ok (.aload_n 1, 1) := by decide +kernel
theorem dX4_readOvens_10 : decode cX4_readOvens 10 = .ok (.bipush 98, 2) := by decide +kernel
theorem dX4_readOvens_12 : decode cX4_readOvens 12 = .ok (.invokevirtual 44, 3) := by decide +kernel
theorem dX4_readOvens_15 : decode cX4_readOvens 15 = .ok (.ifCond .ne 5, 3) := by decide +kernel
theorem dX4_readOvens_18 : decode cX4_readOvens 18 = .ok (.iconst 0, 1) := by decide +kernel
theorem dX4_readOvens_19 : decode cX4_readOvens 19 = .ok (.ireturn, 1) := by decide +kernel
theorem dX4_readOvens_20 : decode cX4_readOvens 20 = .ok (.aload_n 0, 1) := by decide +kernel
theorem dX4_readOvens_21 : decode cX4_readOvens 21 = .ok (.aload_n 1, 1) := by decide +kernel
theorem dX4_readOvens_22 : decode cX4_readOvens 22 = .ok (.iconst 1, 1) := by decide +kernel
theorem dX4_readOvens_23 : decode cX4_readOvens 23 = .ok (.iconst 2, 1) := by decide +kernel
theorem dX4_readOvens_24 : decode cX4_readOvens 24 = .ok (.invokevirtual 48, 3) := by decide +kernel
theorem dX4_readOvens_27 : decode cX4_readOvens 27 = .ok (.putfield 52, 3) := by decide +kernel
theorem dX4_readOvens_30 : decode cX4_readOvens 30 = .ok (.aload_n 0, 1) := by decide +kernel
theorem dX4_readOvens_31 : decode cX4_readOvens 31 = .ok (.getfield 52, 3) := by decide +kernel
theorem dX4_readOvens_34 : decode cX4_readOvens 34 = .ok (.ifCond .lt 12, 3) := by decide +kernel
theorem dX4_readOvens_37 : decode cX4_readOvens 37 = .ok (.aload_n 1, 1) := by decide +kernel
theorem dX4_readOvens_38 : decode cX4_readOvens 38 = .ok (.bipush 100, 2) := by decide +kernel
theorem dX4_readOvens_40 : decode cX4_readOvens 40 = .ok (.invokevirtual 44, 3) := by decide +kernel
theorem dX4_readOvens_43 : decode cX4_readOvens 43 = .ok (.ifCond .ne 5, 3) := by decide +kernel
theorem dX4_readOvens_46 : decode cX4_readOvens 46 = .ok (.iconst 0, 1) := by decide +kernel
theorem dX4_readOvens_47 : decode cX4_readOvens 47 = .ok (.ireturn, 1) := by decide +kernel
theorem dX4_readOvens_48 : decode cX4_readOvens 48 = .ok (.aload_n 0, 1) := by decide +kernel
theorem dX4_readOvens_49 : decode cX4_readOvens 49 = .ok (.aload_n 1, 1) := by decide +kernel
theorem dX4_readOvens_50 : decode cX4_readOvens 50 = .ok (.iconst 0, 1) := by decide +kernel
theorem dX4_readOvens_51 : decode cX4_readOvens 51 = .ok (.bipush 9, 2) := by decide +kernel
theorem dX4_readOvens_53 : decode cX4_readOvens 53 = .ok (.invokevirtual 55, 3) := by decide +kernel
theorem dX4_readOvens_56 : decode cX4_readOvens 56 = .ok (.putfield 58, 3) := by decide +kernel
theorem dX4_readOvens_59 : decode cX4_readOvens 59 = .ok (.aload_n 0, 1) := by decide +kernel
theorem dX4_readOvens_60 : decode cX4_readOvens 60 = .ok (.getfield 58, 3) := by decide +kernel
theorem dX4_readOvens_63 : decode cX4_readOvens 63 = .ok (.ifCond .lt 12, 3) := by decide +kernel
theorem dX4_readOvens_66 : decode cX4_readOvens 66 = .ok (.aload_n 1, 1) := by decide +kernel
theorem dX4_readOvens_67 : decode cX4_readOvens 67 = .ok (.bipush 107, 2) := by decide +kernel
theorem dX4_readOvens_69 : decode cX4_readOvens 69 = .ok (.invokevirtual 44, 3) := by decide +kernel
theorem dX4_readOvens_72 : decode cX4_readOvens 72 = .ok (.ifCond .ne 5, 3) := by decide +kernel
theorem dX4_readOvens_75 : decode cX4_readOvens 75 = .ok (.iconst 0, 1) := by decide +kernel
theorem dX4_readOvens_76 : decode cX4_readOvens 76 = .ok (.ireturn, 1) := by decide +kernel
theorem dX4_readOvens_77 : decode cX4_readOvens 77 = .ok (.aload_n 0, 1) := by decide +kernel
theorem dX4_readOvens_78 : decode cX4_readOvens 78 = .ok (.aload_n 1, 1) := by decide +kernel
theorem dX4_readOvens_79 : decode cX4_readOvens 79 = .ok (.iconst 1, 1) := by decide +kernel
theorem dX4_readOvens_80 : decode cX4_readOvens 80 = .ok (.bipush 9, 2) := by decide +kernel
theorem dX4_readOvens_82 : decode cX4_readOvens 82 = .ok (.invokevirtual 55, 3) := by decide +kernel
theorem dX4_readOvens_85 : decode cX4_readOvens 85 = .ok (.putfield 61, 3) := by decide +kernel
theorem dX4_readOvens_88 : decode cX4_readOvens 88 = .ok (.aload_n 0, 1) := by decide +kernel
theorem dX4_readOvens_89 : decode cX4_readOvens 89 = .ok (.getfield 61, 3) := by decide +kernel
theorem dX4_readOvens_92 : decode cX4_readOvens 92 = .ok (.ifCond .ge 5, 3) := by decide +kernel
theorem dX4_readOvens_95 : decode cX4_readOvens 95 = .ok (.iconst 0, 1) := by decide +kernel
theorem dX4_readOvens_96 : decode cX4_readOvens 96 = .ok (.ireturn, 1) := by decide +kernel
theorem dX4_readOvens_97 : decode cX4_readOvens 97 = .ok (.aload_n 0, 1) := by decide +kernel
theorem dX4_readOvens_98 : decode cX4_readOvens 98 = .ok (.aload_n 1, 1) := by decide +kernel
theorem dX4_readOvens_99 : decode cX4_readOvens 99 = .ok (.bipush 114, 2) := by decide +kernel
theorem dX4_readOvens_101 : decode cX4_readOvens 101 = .ok (.invokevirtual 44, 3) := by decide +kernel
theorem dX4_readOvens_104 : decode cX4_readOvens 104 = .ok (.ifCond .eq 12, 3) := by decide +kernel
theorem dX4_readOvens_107 : decode cX4_readOvens 107 = .ok (.aload_n 1, 1) := by decide +kernel
theorem dX4_readOvens_108 : decode cX4_readOvens 108 = .ok (.iconst 0, 1) := by decide +kernel
theorem dX4_readOvens_109 : decode cX4_readOvens 109 = .ok (.iconst 3, 1) := by decide +kernel
theorem dX4_readOvens_110 : decode cX4_readOvens 110 = .ok (.invokevirtual 48, 3) := by decide +kernel
theorem dX4_readOvens_113 : decode cX4_readOvens 113 = .ok (.goto 4, 3) := by decide +kernel
theorem dX4_readOvens_116 : decode cX4_readOvens 116 = .ok (.iconst 0, 1) := by decide +kernel
theorem dX4_readOvens_117 : decode cX4_readOvens 117 = .ok (.putfield 64, 3) := by decide +kernel
theorem dX4_readOvens_120 : decode cX4_readOvens 120 = .ok (.aload_n 0, 1) := by decide +kernel
theorem dX4_readOvens_121 : decode cX4_readOvens 121 = .ok (.getfield 64, 3) := by decide +kernel
theorem dX4_readOvens_124 : decode cX4_readOvens 124 = .ok (.ifCond .lt 7, 3) := by decide +kernel
theorem dX4_readOvens_127 : decode cX4_readOvens 127 = .ok (.iconst 1, 1) := by decide +kernel
theorem dX4_readOvens_128 : decode cX4_readOvens 128 = .ok (.goto 4, 3) := by decide +kernel
theorem dX4_readOvens_131 : decode cX4_readOvens 131 = .ok (.iconst 0, 1) := by decide +kernel
theorem dX4_readOvens_132 : decode cX4_readOvens 132 = .ok (.ireturn, 1) := by decide +kernel
abbrev tl_X4_readOvens_0 : List (Nat × oOp) := [(0, o_ald 1 1), (1, o_push (vI 59) 3), (3, o_callo T_X8_take 8 1 0 0 0 0 6), (6, o_if zEq 18 9), (9, o_ald 1 10), (10, o_push (vI 98) 12), (12, o_callo T_X8_take 8 1 0 0 0 0 15), (15, o_if zNe 20 18), (18, o_push (vI 0) 19), (19, o_retz 0 0), (20, o_ald 0 21), (21, o_ald 1 22), (22, o_push (vI 1) 23), (23, o_push (vI 2) 24), (24, o_callo T_X8_number 8 2 0 0 0 0 27), (27, o_putI [4] 3 30), (30, o_ald 0 31), (31, o_getI [4] 3 34), (34, o_if zLt 46 37), (37, o_ald 1 38), (38, o_push (vI 100) 40), (40, o_callo T_X8_take 8 1 0 0 0 0 43), (43, o_if zNe 48 46), (46, o_push (vI 0) 47)]
abbrev tl_X4_readOvens_1 : List (Nat × oOp) := [(47, o_retz 0 0), (48, o_ald 0 49), (49, o_ald 1 50), (50, o_push (vI 0) 51), (51, o_push (vI 9) 53), (53, o_callo T_X8_digit 8 2 0 0 0 0 56), (56, o_putI [4] 4 59), (59, o_ald 0 60), (60, o_getI [4] 4 63), (63, o_if zLt 75 66), (66, o_ald 1 67), (67, o_push (vI 107) 69), (69, o_callo T_X8_take 8 1 0 0 0 0 72), (72, o_if zNe 77 75), (75, o_push (vI 0) 76), (76, o_retz 0 0), (77, o_ald 0 78), (78, o_ald 1 79), (79, o_push (vI 1) 80), (80, o_push (vI 9) 82), (82, o_callo T_X8_digit 8 2 0 0 0 0 85), (85, o_putI [4] 5 88), (88, o_ald 0 89), (89, o_getI [4] 5 92)]
abbrev tl_X4_readOvens_2 : List (Nat × oOp) := [(92, o_if zGe 97 95), (95, o_push (vI 0) 96), (96, o_retz 0 0), (97, o_ald 0 98), (98, o_ald 1 99), (99, o_push (vI 114) 101), (101, o_callo T_X8_take 8 1 0 0 0 0 104), (104, o_if zEq 116 107), (107, o_ald 1 108), (108, o_push (vI 0) 109), (109, o_push (vI 3) 110), (110, o_callo T_X8_number 8 2 0 0 0 0 113), (113, o_go 117), (116, o_push (vI 0) 117), (117, o_putI [4] 6 120), (120, o_ald 0 121), (121, o_getI [4] 6 124), (124, o_if zLt 131 127), (127, o_push (vI 1) 128), (128, o_go 132), (131, o_push (vI 0) 132), (132, o_retz 0 0)]
set_option maxRecDepth 20000 in
def tb_X4_readOvens : Nat → oOp := oTab [(0, o_ald 1 1), (1, o_push (vI 59) 3), (3, o_callo T_X8_take 8 1 0 0 0 0 6), (6, o_if zEq 18 9), (9, o_ald 1 10), (10, o_push (vI 98) 12), (12, o_callo T_X8_take 8 1 0 0 0 0 15), (15, o_if zNe 20 18), (18, o_push (vI 0) 19), (19, o_retz 0 0), (20, o_ald 0 21), (21, o_ald 1 22), (22, o_push (vI 1) 23), (23, o_push (vI 2) 24), (24, o_callo T_X8_number 8 2 0 0 0 0 27), (27, o_putI [4] 3 30), (30, o_ald 0 31), (31, o_getI [4] 3 34), (34, o_if zLt 46 37), (37, o_ald 1 38), (38, o_push (vI 100) 40), (40, o_callo T_X8_take 8 1 0 0 0 0 43), (43, o_if zNe 48 46), (46, o_push (vI 0) 47), (47, o_retz 0 0), (48, o_ald 0 49), (49, o_ald 1 50), (50, o_push (vI 0) 51), (51, o_push (vI 9) 53), (53, o_callo T_X8_digit 8 2 0 0 0 0 56), (56, o_putI [4] 4 59), (59, o_ald 0 60), (60, o_getI [4] 4 63), (63, o_if zLt 75 66), (66, o_ald 1 67), (67, o_push (vI 107) 69), (69, o_callo T_X8_take 8 1 0 0 0 0 72), (72, o_if zNe 77 75), (75, o_push (vI 0) 76), (76, o_retz 0 0), (77, o_ald 0 78), (78, o_ald 1 79), (79, o_push (vI 1) 80), (80, o_push (vI 9) 82), (82, o_callo T_X8_digit 8 2 0 0 0 0 85), (85, o_putI [4] 5 88), (88, o_ald 0 89), (89, o_getI [4] 5 92), (92, o_if zGe 97 95), (95, o_push (vI 0) 96), (96, o_retz 0 0), (97, o_ald 0 98), (98, o_ald 1 99), (99, o_push (vI 114) 101), (101, o_callo T_X8_take 8 1 0 0 0 0 104), (104, o_if zEq 116 107), (107, o_ald 1 108), (108, o_push (vI 0) 109), (109, o_push (vI 3) 110), (110, o_callo T_X8_number 8 2 0 0 0 0 113), (113, o_go 117), (116, o_push (vI 0) 117), (117, o_putI [4] 6 120), (120, o_ald 0 121), (121, o_getI [4] 6 124), (124, o_if zLt 131 127), (127, o_push (vI 1) 128), (128, o_go 132), (131, o_push (vI 0) 132), (132, o_retz 0 0)]
def T_X4_readOvens : List oA → oM → oQ → Prop := oT tb_X4_readOvens 2
set_option maxRecDepth 20000 in
theorem sn_X4_readOvens_0 {p : Program} {l : Launch} {e : Env} {s : State} {m : MethodId} {args : Array Value} {below : List Frame} {meth : Method} {c : Code} {D : va_G} {ids : Nat → ClassId} {b : Nat} {Q : oQ} (C : oCx p s m args c cX4_readOvens 2 (yX4_readOvens).cls D ids b) (hr : meth.sig.returnType = (some .boolean)) (hlk : meth.locks = false) (hnm : meth.name = (yX4_readOvens).name) : ∀ q ∈ tl_X4_readOvens_0, oSn (oW p l e (oRm 3 68 0 0) s m args below meth c 2 D ids b (oMQ D ids b below Q args s 0 0)) Q q.1 q.2 := List.forall_mem_cons.mpr ⟨so_aload_n C 1 rfl dX4_readOvens_0, List.forall_mem_cons.mpr ⟨so_bipush C 59 rfl dX4_readOvens_1, List.forall_mem_cons.mpr ⟨so_callV C (y := yX8_take) 8 1 0 0 (RX8, TX8, 3) (by decide) rfl rfl ⟨Nat.le_refl _, Nat.le_refl _⟩ (c_X8_take l D ids) kw_374 kw_371 kw_372 kw_373 kw_2 hy_X8_take ⟨Nat.le_of_ble_eq_true rfl, Nat.le_of_ble_eq_true rfl⟩ dX4_readOvens_3, List.forall_mem_cons.mpr ⟨so_if_eq C (by decide) dX4_readOvens_6, List.forall_mem_cons.mpr ⟨so_aload_n C 1 rfl dX4_readOvens_9, List.forall_mem_cons.mpr ⟨so_bipush C 98 rfl dX4_readOvens_10, List.forall_mem_cons.mpr ⟨so_callV C (y := yX8_take) 8 1 0 0 (RX8, TX8, 3) (by decide) rfl rfl ⟨Nat.le_refl _, Nat.le_refl _⟩ (c_X8_take l D ids) kw_374 kw_371 kw_372 kw_373 kw_2 hy_X8_take ⟨Nat.le_of_ble_eq_true rfl, Nat.le_of_ble_eq_true rfl⟩ dX4_readOvens_12, List.forall_mem_cons.mpr ⟨so_if_ne C (by decide) dX4_readOvens_15, List.forall_mem_cons.mpr ⟨so_iconst C 0 rfl dX4_readOvens_18, List.forall_mem_cons.mpr ⟨so_retz C 0 0 hr hlk dX4_readOvens_19, List.forall_mem_cons.mpr ⟨so_aload_n C 0 rfl dX4_readOvens_20, List.forall_mem_cons.mpr ⟨so_aload_n C 1 rfl dX4_readOvens_21, List.forall_mem_cons.mpr ⟨so_iconst C 1 rfl dX4_readOvens_22, List.forall_mem_cons.mpr ⟨so_iconst C 2 rfl dX4_readOvens_23, List.forall_mem_cons.mpr ⟨so_callV C (y := yX8_number) 8 2 0 0 (RX8, TX8, 3) (by decide) rfl rfl ⟨Nat.le_refl _, Nat.le_refl _⟩ (c_X8_number l D ids) kw_382 kw_379 kw_380 kw_381 kw_2 hy_X8_number ⟨Nat.le_of_ble_eq_true rfl, Nat.le_of_ble_eq_true rfl⟩ dX4_readOvens_24, List.forall_mem_cons.mpr ⟨so_putI C [4] 3 (fd_RX4_52_4 C) (fn_4_3) (by decide) dX4_readOvens_27, List.forall_mem_cons.mpr ⟨so_aload_n C 0 rfl dX4_readOvens_30, List.forall_mem_cons.mpr ⟨so_getI C [4] 3 (fd_RX4_52_4 C) (by decide) dX4_readOvens_31, List.forall_mem_cons.mpr ⟨so_if_lt C (by decide) dX4_readOvens_34, List.forall_mem_cons.mpr ⟨so_aload_n C 1 rfl dX4_readOvens_37, List.forall_mem_cons.mpr ⟨so_bipush C 100 rfl dX4_readOvens_38, List.forall_mem_cons.mpr ⟨so_callV C (y := yX8_take) 8 1 0 0 (RX8, TX8, 3) (by decide) rfl rfl ⟨Nat.le_refl _, Nat.le_refl _⟩ (c_X8_take l D ids) kw_374 kw_371 kw_372 kw_373 kw_2 hy_X8_take ⟨Nat.le_of_ble_eq_true rfl, Nat.le_of_ble_eq_true rfl⟩ dX4_readOvens_40, List.forall_mem_cons.mpr ⟨so_if_ne C (by decide) dX4_readOvens_43, List.forall_mem_cons.mpr ⟨so_iconst C 0 rfl dX4_readOvens_46, fun _ h => absurd h List.not_mem_nil⟩⟩⟩⟩⟩⟩⟩⟩⟩⟩⟩⟩⟩⟩⟩⟩⟩⟩⟩⟩⟩⟩⟩⟩
set_option maxRecDepth 20000 in
theorem sn_X4_readOvens_1 {p : Program} {l : Launch} {e : Env} {s : State} {m : MethodId} {args : Array Value} {below : List Frame} {meth : Method} {c : Code} {D : va_G} {ids : Nat → ClassId} {b : Nat} {Q : oQ} (C : oCx p s m args c cX4_readOvens 2 (yX4_readOvens).cls D ids b) (hr : meth.sig.returnType = (some .boolean)) (hlk : meth.locks = false) (hnm : meth.name = (yX4_readOvens).name) : ∀ q ∈ tl_X4_readOvens_1, oSn (oW p l e (oRm 3 68 0 0) s m args below meth c 2 D ids b (oMQ D ids b below Q args s 0 0)) Q q.1 q.2 := List.forall_mem_cons.mpr ⟨so_retz C 0 0 hr hlk dX4_readOvens_47, List.forall_mem_cons.mpr ⟨so_aload_n C 0 rfl dX4_readOvens_48, List.forall_mem_cons.mpr ⟨so_aload_n C 1 rfl dX4_readOvens_49, List.forall_mem_cons.mpr ⟨so_iconst C 0 rfl dX4_readOvens_50, List.forall_mem_cons.mpr ⟨so_bipush C 9 rfl dX4_readOvens_51, List.forall_mem_cons.mpr ⟨so_callV C (y := yX8_digit) 8 2 0 0 (RX8, TX8, 3) (by decide) rfl rfl ⟨Nat.le_refl _, Nat.le_refl _⟩ (c_X8_digit l D ids) kw_386 kw_391 kw_384 kw_385 kw_2 hy_X8_digit ⟨Nat.le_of_ble_eq_true rfl, Nat.le_of_ble_eq_true rfl⟩ dX4_readOvens_53, List.forall_mem_cons.mpr ⟨so_putI C [4] 4 (fd_RX4_58_4 C) (fn_4_4) (by decide) dX4_readOvens_56, List.forall_mem_cons.mpr ⟨so_aload_n C 0 rfl dX4_readOvens_59, List.forall_mem_cons.mpr ⟨so_getI C [4] 4 (fd_RX4_58_4 C) (by decide) dX4_readOvens_60, List.forall_mem_cons.mpr ⟨so_if_lt C (by decide) dX4_readOvens_63, List.forall_mem_cons.mpr ⟨so_aload_n C 1 rfl dX4_readOvens_66, List.forall_mem_cons.mpr ⟨so_bipush C 107 rfl dX4_readOvens_67, List.forall_mem_cons.mpr ⟨so_callV C (y := yX8_take) 8 1 0 0 (RX8, TX8, 3) (by decide) rfl rfl ⟨Nat.le_refl _, Nat.le_refl _⟩ (c_X8_take l D ids) kw_374 kw_371 kw_372 kw_373 kw_2 hy_X8_take ⟨Nat.le_of_ble_eq_true rfl, Nat.le_of_ble_eq_true rfl⟩ dX4_readOvens_69, List.forall_mem_cons.mpr ⟨so_if_ne C (by decide) dX4_readOvens_72, List.forall_mem_cons.mpr ⟨so_iconst C 0 rfl dX4_readOvens_75, List.forall_mem_cons.mpr ⟨so_retz C 0 0 hr hlk dX4_readOvens_76, List.forall_mem_cons.mpr ⟨so_aload_n C 0 rfl dX4_readOvens_77, List.forall_mem_cons.mpr ⟨so_aload_n C 1 rfl dX4_readOvens_78, List.forall_mem_cons.mpr ⟨so_iconst C 1 rfl dX4_readOvens_79, List.forall_mem_cons.mpr ⟨so_bipush C 9 rfl dX4_readOvens_80, List.forall_mem_cons.mpr ⟨so_callV C (y := yX8_digit) 8 2 0 0 (RX8, TX8, 3) (by decide) rfl rfl ⟨Nat.le_refl _, Nat.le_refl _⟩ (c_X8_digit l D ids) kw_386 kw_391 kw_384 kw_385 kw_2 hy_X8_digit ⟨Nat.le_of_ble_eq_true rfl, Nat.le_of_ble_eq_true rfl⟩ dX4_readOvens_82, List.forall_mem_cons.mpr ⟨so_putI C [4] 5 (fd_RX4_61_4 C) (fn_4_5) (by decide) dX4_readOvens_85, List.forall_mem_cons.mpr ⟨so_aload_n C 0 rfl dX4_readOvens_88, List.forall_mem_cons.mpr ⟨so_getI C [4] 5 (fd_RX4_61_4 C) (by decide) dX4_readOvens_89, fun _ h => absurd h List.not_mem_nil⟩⟩⟩⟩⟩⟩⟩⟩⟩⟩⟩⟩⟩⟩⟩⟩⟩⟩⟩⟩⟩⟩⟩⟩
set_option maxRecDepth 20000 in
theorem sn_X4_readOvens_2 {p : Program} {l : Launch} {e : Env} {s : State} {m : MethodId} {args : Array Value} {below : List Frame} {meth : Method} {c : Code} {D : va_G} {ids : Nat → ClassId} {b : Nat} {Q : oQ} (C : oCx p s m args c cX4_readOvens 2 (yX4_readOvens).cls D ids b) (hr : meth.sig.returnType = (some .boolean)) (hlk : meth.locks = false) (hnm : meth.name = (yX4_readOvens).name) : ∀ q ∈ tl_X4_readOvens_2, oSn (oW p l e (oRm 3 68 0 0) s m args below meth c 2 D ids b (oMQ D ids b below Q args s 0 0)) Q q.1 q.2 := List.forall_mem_cons.mpr ⟨so_if_ge C (by decide) dX4_readOvens_92, List.forall_mem_cons.mpr ⟨so_iconst C 0 rfl dX4_readOvens_95, List.forall_mem_cons.mpr ⟨so_retz C 0 0 hr hlk dX4_readOvens_96, List.forall_mem_cons.mpr ⟨so_aload_n C 0 rfl dX4_readOvens_97, List.forall_mem_cons.mpr ⟨so_aload_n C 1 rfl dX4_readOvens_98, List.forall_mem_cons.mpr ⟨so_bipush C 114 rfl dX4_readOvens_99, List.forall_mem_cons.mpr ⟨so_callV C (y := yX8_take) 8 1 0 0 (RX8, TX8, 3) (by decide) rfl rfl ⟨Nat.le_refl _, Nat.le_refl _⟩ (c_X8_take l D ids) kw_374 kw_371 kw_372 kw_373 kw_2 hy_X8_take ⟨Nat.le_of_ble_eq_true rfl, Nat.le_of_ble_eq_true rfl⟩ dX4_readOvens_101, List.forall_mem_cons.mpr ⟨so_if_eq C (by decide) dX4_readOvens_104, List.forall_mem_cons.mpr ⟨so_aload_n C 1 rfl dX4_readOvens_107, List.forall_mem_cons.mpr ⟨so_iconst C 0 rfl dX4_readOvens_108, List.forall_mem_cons.mpr ⟨so_iconst C 3 rfl dX4_readOvens_109, List.forall_mem_cons.mpr ⟨so_callV C (y := yX8_number) 8 2 0 0 (RX8, TX8, 3) (by decide) rfl rfl ⟨Nat.le_refl _, Nat.le_refl _⟩ (c_X8_number l D ids) kw_382 kw_379 kw_380 kw_381 kw_2 hy_X8_number ⟨Nat.le_of_ble_eq_true rfl, Nat.le_of_ble_eq_true rfl⟩ dX4_readOvens_110, List.forall_mem_cons.mpr ⟨so_goto C (by decide) dX4_readOvens_113, List.forall_mem_cons.mpr ⟨so_iconst C 0 rfl dX4_readOvens_116, List.forall_mem_cons.mpr ⟨so_putI C [4] 6 (fd_RX4_64_4 C) (fn_4_6) (by decide) dX4_readOvens_117, List.forall_mem_cons.mpr ⟨so_aload_n C 0 rfl dX4_readOvens_120, List.forall_mem_cons.mpr ⟨so_getI C [4] 6 (fd_RX4_64_4 C) (by decide) dX4_readOvens_121, List.forall_mem_cons.mpr ⟨so_if_lt C (by decide) dX4_readOvens_124, List.forall_mem_cons.mpr ⟨so_iconst C 1 rfl dX4_readOvens_127, List.forall_mem_cons.mpr ⟨so_goto C (by decide) dX4_readOvens_128, List.forall_mem_cons.mpr ⟨so_iconst C 0 rfl dX4_readOvens_131, List.forall_mem_cons.mpr ⟨so_retz C 0 0 hr hlk dX4_readOvens_132, fun _ h => absurd h List.not_mem_nil⟩⟩⟩⟩⟩⟩⟩⟩⟩⟩⟩⟩⟩⟩⟩⟩⟩⟩⟩⟩⟩⟩
set_option maxRecDepth 20000 in
theorem c_X4_readOvens (l : Launch) (D : va_G) (ids : Nat → ClassId) : oMT l D ids yX4_readOvens cX4_readOvens 2 (some .boolean) 3 68 0 0 T_X4_readOvens := oMet l D ids tb_X4_readOvens (by decide) (fun p e s m args below meth c b Q C hr hlk hnm => oTab_all (tl_X4_readOvens_0 ++ (tl_X4_readOvens_1 ++ (tl_X4_readOvens_2))) (List.forall_mem_append.mpr ⟨sn_X4_readOvens_0 C hr hlk hnm, List.forall_mem_append.mpr ⟨sn_X4_readOvens_1 C hr hlk hnm, sn_X4_readOvens_2 C hr hlk hnm⟩⟩))
theorem dX4_read_0 : decode cX4_read 0 = .ok (.aload_n 1, 1) := by decide +kernel
theorem dX4_read_1 : decode cX4_read 1 = .ok (.iconst 0, 1) := by decide +kernel
theorem dX4_read_2 : decode cX4_read 2 = .ok (.putfield 22, 3) := by decide +kernel
theorem dX4_read_5 : decode cX4_read 5 = .ok (.aload_n 0, 1) := by decide +kernel
theorem dX4_read_6 : decode cX4_read 6 = .ok (.getfield 9, 3) := by decide +kernel
theorem dX4_read_9 : decode cX4_read 9 = .ok (.iconst 0, 1) := by decide +kernel
theorem dX4_read_10 : decode cX4_read 10 = .ok (.invokestatic 27, 3) := by decide +kernel
theorem dX4_read_13 : decode cX4_read 13 = .ok (.aload_n 0, 1) := by decide +kernel
theorem dX4_read_14 : decode cX4_read 14 = .ok (.aload_n 1, 1) := by decide +kernel
theorem dX4_read_15 : decode cX4_read 15 = .ok (.invokevirtual 33, 3) := by decide +kernel
theorem dX4_read_18 : decode cX4_read 18 = .ok (.ifCond .eq 22, 3) := by decide +kernel
theorem dX4_read_21 : decode cX4_read 21 = .ok (.aload_n 0, 1) := by decide +kernel
theorem dX4_read_22 : decode cX4_read 22 = .ok (.aload_n 1, 1) := by decide +kernel
theorem dX4_read_23 : decode cX4_read 23 = .ok (.invokevirtual 37, 3) := by decide +kernel
theorem dX4_read_26 : decode cX4_read 26 = .ok (.ifCond .eq 14, 3) := by decide +kernel
theorem dX4_read_29 : decode cX4_read 29 = .ok (.aload_n 1, 1) := by decide +kernel
theorem dX4_read_30 : decode cX4_read 30 = .ok (.invokevirtual 40, 3) := by decide +kernel
theorem dX4_read_33 : decode cX4_read 33 = .ok (.ifCond .eq 7, 3) := by decide +kernel
theorem dX4_read_36 : decode cX4_read 36 = .ok (.iconst 1, 1) := by decide +kernel
theorem dX4_read_37 : decode cX4_read 37 = .ok (.goto 4, 3) := by decide +kernel
theorem dX4_read_40 : decode cX4_read 40 = .ok (.iconst 0, 1) := by decide +kernel
theorem dX4_read_41 : decode cX4_read 41 = .ok (.ireturn, 1) := by decide +kernel
abbrev tl_X4_read_0 : List (Nat × oOp) := [(0, o_ald 1 1), (1, o_push (vI 0) 2), (2, o_putI [8] 2 5), (5, o_ald 0 6), (6, o_getR [4] 1 9), (9, o_push (vI 0) 10), (10, o_call T_J7_fill_53178 2 0 0 0 0 13), (13, o_ald 0 14), (14, o_ald 1 15), (15, o_callo T_X4_readPlaces 4 1 0 0 0 0 18), (18, o_if zEq 40 21), (21, o_ald 0 22), (22, o_ald 1 23), (23, o_callo T_X4_readOvens 4 1 0 0 0 0 26), (26, o_if zEq 40 29), (29, o_ald 1 30), (30, o_callo T_X8_atEnd 8 0 0 0 0 0 33), (33, o_if zEq 40 36), (36, o_push (vI 1) 37), (37, o_go 41), (40, o_push (vI 0) 41), (41, o_retz 0 0)]
set_option maxRecDepth 20000 in
def tb_X4_read : Nat → oOp := oTab [(0, o_ald 1 1), (1, o_push (vI 0) 2), (2, o_putI [8] 2 5), (5, o_ald 0 6), (6, o_getR [4] 1 9), (9, o_push (vI 0) 10), (10, o_call T_J7_fill_53178 2 0 0 0 0 13), (13, o_ald 0 14), (14, o_ald 1 15), (15, o_callo T_X4_readPlaces 4 1 0 0 0 0 18), (18, o_if zEq 40 21), (21, o_ald 0 22), (22, o_ald 1 23), (23, o_callo T_X4_readOvens 4 1 0 0 0 0 26), (26, o_if zEq 40 29), (29, o_ald 1 30), (30, o_callo T_X8_atEnd 8 0 0 0 0 0 33), (33, o_if zEq 40 36), (36, o_push (vI 1) 37), (37, o_go 41), (40, o_push (vI 0) 41), (41, o_retz 0 0)]
def T_X4_read : List oA → oM → oQ → Prop := oT tb_X4_read 2
set_option maxRecDepth 20000 in
theorem sn_X4_read_0 {p : Program} {l : Launch} {e : Env} {s : State} {m : MethodId} {args : Array Value} {below : List Frame} {meth : Method} {c : Code} {D : va_G} {ids : Nat → ClassId} {b : Nat} {Q : oQ} (C : oCx p s m args c cX4_read 2 (yX4_read).cls D ids b) (hr : meth.sig.returnType = (some .boolean)) (hlk : meth.locks = false) (hnm : meth.name = (yX4_read).name) : ∀ q ∈ tl_X4_read_0, oSn (oW p l e (oRm 4 91 0 0) s m args below meth c 2 D ids b (oMQ D ids b below Q args s 0 0)) Q q.1 q.2 := List.forall_mem_cons.mpr ⟨so_aload_n C 1 rfl dX4_read_0, List.forall_mem_cons.mpr ⟨so_iconst C 0 rfl dX4_read_1, List.forall_mem_cons.mpr ⟨so_putI C [8] 2 (fd_RX4_22_8 C) (fn_8_2) (by decide) dX4_read_2, List.forall_mem_cons.mpr ⟨so_aload_n C 0 rfl dX4_read_5, List.forall_mem_cons.mpr ⟨so_getR C [4] 1 (fd_RX4_9_4 C) (ft_4_1) dX4_read_6, List.forall_mem_cons.mpr ⟨so_iconst C 0 rfl dX4_read_9, List.forall_mem_cons.mpr ⟨so_callS C (y := yJ7_fill_53178) 2 0 0 ⟨Nat.le_refl _, Nat.le_refl _⟩ (c_J7_fill_53178 l D ids) kw_287 kw_366 kw_286 kw_10 hy_J7_fill_53178 ⟨Nat.le_of_ble_eq_true rfl, Nat.le_of_ble_eq_true rfl⟩ dX4_read_10, List.forall_mem_cons.mpr ⟨so_aload_n C 0 rfl dX4_read_13, List.forall_mem_cons.mpr ⟨so_aload_n C 1 rfl dX4_read_14, List.forall_mem_cons.mpr ⟨so_callV C (y := yX4_readPlaces) 4 1 0 0 (RX4, TX4, 7) (by decide) rfl rfl ⟨Nat.le_refl _, Nat.le_refl _⟩ (c_X4_readPlaces l D ids) kw_370 kw_367 kw_369 kp_1 kw_3 hy_X4_readPlaces ⟨Nat.le_of_ble_eq_true rfl, Nat.le_of_ble_eq_true rfl⟩ dX4_read_15, List.forall_mem_cons.mpr ⟨so_if_eq C (by decide) dX4_read_18, List.forall_mem_cons.mpr ⟨so_aload_n C 0 rfl dX4_read_21, List.forall_mem_cons.mpr ⟨so_aload_n C 1 rfl dX4_read_22, List.forall_mem_cons.mpr ⟨so_callV C (y := yX4_readOvens) 4 1 0 0 (RX4, TX4, 7) (by decide) rfl rfl ⟨Nat.le_refl _, Nat.le_refl _⟩ (c_X4_readOvens l D ids) kw_390 kw_387 kw_389 kp_2 kw_3 hy_X4_readOvens ⟨Nat.le_of_ble_eq_true rfl, Nat.le_of_ble_eq_true rfl⟩ dX4_read_23, List.forall_mem_cons.mpr ⟨so_if_eq C (by decide) dX4_read_26, List.forall_mem_cons.mpr ⟨so_aload_n C 1 rfl dX4_read_29, List.forall_mem_cons.mpr ⟨so_callV C (y := yX8_atEnd) 8 0 0 0 (RX8, TX8, 3) (by decide) rfl rfl ⟨Nat.le_refl _, Nat.le_refl _⟩ (c_X8_atEnd l D ids) kw_395 kw_392 kw_393 kw_394 kw_2 hy_X8_atEnd ⟨Nat.le_of_ble_eq_true rfl, Nat.le_of_ble_eq_true rfl⟩ dX4_read_30, List.forall_mem_cons.mpr ⟨so_if_eq C (by decide) dX4_read_33, List.forall_mem_cons.mpr ⟨so_iconst C 1 rfl dX4_read_36, List.forall_mem_cons.mpr ⟨so_goto C (by decide) dX4_read_37, List.forall_mem_cons.mpr ⟨so_iconst C 0 rfl dX4_read_40, List.forall_mem_cons.mpr ⟨so_retz C 0 0 hr hlk dX4_read_41, fun _ h => absurd h List.not_mem_nil⟩⟩⟩⟩⟩⟩⟩⟩⟩⟩⟩⟩⟩⟩⟩⟩⟩⟩⟩⟩⟩⟩
set_option maxRecDepth 20000 in
theorem c_X4_read (l : Launch) (D : va_G) (ids : Nat → ClassId) : oMT l D ids yX4_read cX4_read 2 (some .boolean) 4 91 0 0 T_X4_read := oMet l D ids tb_X4_read (by decide) (fun p e s m args below meth c b Q C hr hlk hnm => oTab_all (tl_X4_read_0) (sn_X4_read_0 C hr hlk hnm))
theorem dX6_readTenths_0 : decode cX6_readTenths 0 = .ok (.aload_n 1, 1) := by decide +kernel
theorem dX6_readTenths_1 : decode cX6_readTenths 1 = .ok (.iconst 1, 1) := by decide +kernel
theorem dX6_readTenths_2 : decode cX6_readTenths 2 = .ok (.bipush 9, 2) := by decide +kernel
theorem dX6_readTenths_4 : decode cX6_readTenths 4 = .ok (.invokevirtual 52, 3) := by decide +kernel
theorem dX6_readTenths_7 : decode cX6_readTenths 7 = .ok (.istore_n 3, 1) := by decide +kernel
theorem dX6_readTenths_8 : decode cX6_readTenths 8 = .ok (.iload_n 3, 1) := by decide +kernel
theorem dX6_readTenths_9 : decode cX6_readTenths 9 = .ok (.ifCond .lt 11, 3) := by decide +kernel
theorem dX6_readTenths_12 : decode cX6_readTenths 12 = .ok (.aload_n 0, 1) := by decide +kernel
theorem dX6_readTenths_13 : decode cX6_readTenths 13 = .ok (.getfield 30, 3) := by decide +kernel
theorem dX6_readTenths_16 : decode cX6_readTenths 16 = .ok (.iconst 2, 1) := by decide +kernel
theorem dX6_readTenths_17 : decode cX6_readTenths 17 = .ok (.if_icmp .lt 5, 3) := by decide +kernel
theorem dX6_readTenths_20 : decode cX6_readTenths 20 = .ok (.iconst 0, 1) := by decide +kernel
theorem dX6_readTenths_21 : decode cX6_readTenths 21 = .ok (.ireturn, 1) := by decide +kernel
theorem dX6_readTenths_22 : decode cX6_readTenths 22 = .ok (.aload_n 0, 1) := by decide +kernel
theorem dX6_readTenths_23 : decode cX6_readTenths 23 = .ok (.getfield 18, 3) := by decide +kernel
theorem dX6_readTenths_26 : decode cX6_readTenths 26 = .ok (.aload_n 0, 1) := by decide +kernel
theorem dX6_readTenths_27 : decode cX6_readTenths 27 = .ok (.getfield 30, 3) := by decide +kernel
theorem dX6_readTenths_30 : decode cX6_readTenths 30 = .ok (.iload_n 3, 1) := by decide +kernel
theorem dX6_readTenths_31 : decode cX6_readTenths 31 = .ok (.iastore, 1) := by decide +kernel
theorem dX6_readTenths_32 : decode cX6_readTenths 32 = .ok (.aload_n 0, 1) := by decide +kernel
theorem dX6_readTenths_33 : decode cX6_readTenths 33 = .ok (.dup, 1) := by decide +kernel
theorem dX6_readTenths_34 : decode cX6_readTenths 34 = .ok (.getfield 30, 3) := by decide +kernel
theorem dX6_readTenths_37 : decode cX6_readTenths 37 = .ok (.iconst 1, 1) := by decide +kernel
theorem dX6_readTenths_38 : decode cX6_readTenths 38 = .ok (.iadd, 1) := by decide +kernel
theorem dX6_readTenths_39 : decode cX6_readTenths 39 = .ok (.putfield 30, 3) := by decide +kernel
theorem dX6_readTenths_42 : decode cX6_readTenths 42 = .ok (.aload_n 0, 1) := by decide +kernel
theorem dX6_readTenths_43 : decode cX6_readTenths 43 = .ok (.iconst 2, 1) := by decide +kernel
theorem dX6_readTenths_44 : decode cX6_readTenths 44 = .ok (.iconst 1, 1) := by decide +kernel
theorem dX6_readTenths_45 : decode cX6_readTenths 45 = .ok (.iload_n 2, 1) := by decide +kernel
theorem dX6_readTenths_46 : decode cX6_readTenths 46 = .ok (.invokevirtual 55, 3) := by decide +kernel
theorem dX6_readTenths_49 : decode cX6_readTenths 49 = .ok (.iconst 1, 1) := by decide +kernel
theorem dX6_readTenths_50 : decode cX6_readTenths 50 = .ok (.ireturn, 1) := by decide +kernel
abbrev tl_X6_readTenths_0 : List (Nat × oOp) := [(0, o_ald 1 1), (1, o_push (vI 1) 2), (2, o_push (vI 9) 4), (4, o_callo T_X8_digit 8 2 0 0 0 0 7), (7, o_ist 3 8), (8, o_ild 3 9), (9, o_if zLt 20 12), (12, o_ald 0 13), (13, o_getI [6] 1 16), (16, o_push (vI 2) 17), (17, o_ic pLt 22 20), (20, o_push (vI 0) 21), (21, o_retz 0 0), (22, o_ald 0 23), (23, o_getR [6] 4 26), (26, o_ald 0 27), (27, o_getI [6] 1 30), (30, o_ild 3 31), (31, o_iast 32), (32, o_ald 0 33), (33, o_dup 34), (34, o_getI [6] 1 37), (37, o_push (vI 1) 38), (38, o_ib fAdd 39)]
abbrev tl_X6_readTenths_1 : List (Nat × oOp) := [(39, o_putI [6] 1 42), (42, o_ald 0 43), (43, o_push (vI 2) 44), (44, o_push (vI 1) 45), (45, o_ild 2 46), (46, o_callo T_X6_addDays 6 3 0 0 0 0 49), (49, o_push (vI 1) 50), (50, o_retz 0 0)]
set_option maxRecDepth 20000 in
def tb_X6_readTenths : Nat → oOp := oTab [(0, o_ald 1 1), (1, o_push (vI 1) 2), (2, o_push (vI 9) 4), (4, o_callo T_X8_digit 8 2 0 0 0 0 7), (7, o_ist 3 8), (8, o_ild 3 9), (9, o_if zLt 20 12), (12, o_ald 0 13), (13, o_getI [6] 1 16), (16, o_push (vI 2) 17), (17, o_ic pLt 22 20), (20, o_push (vI 0) 21), (21, o_retz 0 0), (22, o_ald 0 23), (23, o_getR [6] 4 26), (26, o_ald 0 27), (27, o_getI [6] 1 30), (30, o_ild 3 31), (31, o_iast 32), (32, o_ald 0 33), (33, o_dup 34), (34, o_getI [6] 1 37), (37, o_push (vI 1) 38), (38, o_ib fAdd 39), (39, o_putI [6] 1 42), (42, o_ald 0 43), (43, o_push (vI 2) 44), (44, o_push (vI 1) 45), (45, o_ild 2 46), (46, o_callo T_X6_addDays 6 3 0 0 0 0 49), (49, o_push (vI 1) 50), (50, o_retz 0 0)]
def T_X6_readTenths : List oA → oM → oQ → Prop := oT tb_X6_readTenths 4
set_option maxRecDepth 20000 in
theorem sn_X6_readTenths_0 {p : Program} {l : Launch} {e : Env} {s : State} {m : MethodId} {args : Array Value} {below : List Frame} {meth : Method} {c : Code} {D : va_G} {ids : Nat → ClassId} {b : Nat} {Q : oQ} (C : oCx p s m args c cX6_readTenths 4 (yX6_readTenths).cls D ids b) (hr : meth.sig.returnType = (some .boolean)) (hlk : meth.locks = false) (hnm : meth.name = (yX6_readTenths).name) : ∀ q ∈ tl_X6_readTenths_0, oSn (oW p l e (oRm 2 43 0 0) s m args below meth c 4 D ids b (oMQ D ids b below Q args s 0 0)) Q q.1 q.2 := List.forall_mem_cons.mpr ⟨so_aload_n C 1 rfl dX6_readTenths_0, List.forall_mem_cons.mpr ⟨so_iconst C 1 rfl dX6_readTenths_1, List.forall_mem_cons.mpr ⟨so_bipush C 9 rfl dX6_readTenths_2, List.forall_mem_cons.mpr ⟨so_callV C (y := yX8_digit) 8 2 0 0 (RX8, TX8, 3) (by decide) rfl rfl ⟨Nat.le_refl _, Nat.le_refl _⟩ (c_X8_digit l D ids) kw_386 kw_407 kw_384 kw_385 kw_2 hy_X8_digit ⟨Nat.le_of_ble_eq_true rfl, Nat.le_of_ble_eq_true rfl⟩ dX6_readTenths_4, List.forall_mem_cons.mpr ⟨so_istore_n C 3 rfl (by decide) dX6_readTenths_7, List.forall_mem_cons.mpr ⟨so_iload_n C 3 rfl dX6_readTenths_8, List.forall_mem_cons.mpr ⟨so_if_lt C (by decide) dX6_readTenths_9, List.forall_mem_cons.mpr ⟨so_aload_n C 0 rfl dX6_readTenths_12, List.forall_mem_cons.mpr ⟨so_getI C [6] 1 (fd_RX6_30_6 C) (by decide) dX6_readTenths_13, List.forall_mem_cons.mpr ⟨so_iconst C 2 rfl dX6_readTenths_16, List.forall_mem_cons.mpr ⟨so_ic_lt C (by decide) dX6_readTenths_17, List.forall_mem_cons.mpr ⟨so_iconst C 0 rfl dX6_readTenths_20, List.forall_mem_cons.mpr ⟨so_retz C 0 0 hr hlk dX6_readTenths_21, List.forall_mem_cons.mpr ⟨so_aload_n C 0 rfl dX6_readTenths_22, List.forall_mem_cons.mpr ⟨so_getR C [6] 4 (fd_RX6_18_6 C) (ft_6_4) dX6_readTenths_23, List.forall_mem_cons.mpr ⟨so_aload_n C 0 rfl dX6_readTenths_26, List.forall_mem_cons.mpr ⟨so_getI C [6] 1 (fd_RX6_30_6 C) (by decide) dX6_readTenths_27, List.forall_mem_cons.mpr ⟨so_iload_n C 3 rfl dX6_readTenths_30, List.forall_mem_cons.mpr ⟨so_iast C dX6_readTenths_31, List.forall_mem_cons.mpr ⟨so_aload_n C 0 rfl dX6_readTenths_32, List.forall_mem_cons.mpr ⟨so_dup C dX6_readTenths_33, List.forall_mem_cons.mpr ⟨so_getI C [6] 1 (fd_RX6_30_6 C) (by decide) dX6_readTenths_34, List.forall_mem_cons.mpr ⟨so_iconst C 1 rfl dX6_readTenths_37, List.forall_mem_cons.mpr ⟨so_iadd C dX6_readTenths_38, fun _ h => absurd h List.not_mem_nil⟩⟩⟩⟩⟩⟩⟩⟩⟩⟩⟩⟩⟩⟩⟩⟩⟩⟩⟩⟩⟩⟩⟩⟩
set_option maxRecDepth 20000 in
theorem sn_X6_readTenths_1 {p : Program} {l : Launch} {e : Env} {s : State} {m : MethodId} {args : Array Value} {below : List Frame} {meth : Method} {c : Code} {D : va_G} {ids : Nat → ClassId} {b : Nat} {Q : oQ} (C : oCx p s m args c cX6_readTenths 4 (yX6_readTenths).cls D ids b) (hr : meth.sig.returnType = (some .boolean)) (hlk : meth.locks = false) (hnm : meth.name = (yX6_readTenths).name) : ∀ q ∈ tl_X6_readTenths_1, oSn (oW p l e (oRm 2 43 0 0) s m args below meth c 4 D ids b (oMQ D ids b below Q args s 0 0)) Q q.1 q.2 := List.forall_mem_cons.mpr ⟨so_putI C [6] 1 (fd_RX6_30_6 C) (fn_6_1) (by decide) dX6_readTenths_39, List.forall_mem_cons.mpr ⟨so_aload_n C 0 rfl dX6_readTenths_42, List.forall_mem_cons.mpr ⟨so_iconst C 2 rfl dX6_readTenths_43, List.forall_mem_cons.mpr ⟨so_iconst C 1 rfl dX6_readTenths_44, List.forall_mem_cons.mpr ⟨so_iload_n C 2 rfl dX6_readTenths_45, List.forall_mem_cons.mpr ⟨so_callV C (y := yX6_addDays) 6 3 0 0 (RX6, TX6, 5) (by decide) rfl rfl ⟨Nat.le_refl _, Nat.le_refl _⟩ (c_X6_addDays l D ids) kw_411 kw_408 kw_410 kp_4 kw_4 hy_X6_addDays ⟨Nat.le_of_ble_eq_true rfl, Nat.le_of_ble_eq_true rfl⟩ dX6_readTenths_46, List.forall_mem_cons.mpr ⟨so_iconst C 1 rfl dX6_readTenths_49, List.forall_mem_cons.mpr ⟨so_retz C 0 0 hr hlk dX6_readTenths_50, fun _ h => absurd h List.not_mem_nil⟩⟩⟩⟩⟩⟩⟩⟩
set_option maxRecDepth 20000 in
theorem c_X6_readTenths (l : Launch) (D : va_G) (ids : Nat → ClassId) : oMT l D ids yX6_readTenths cX6_readTenths 4 (some .boolean) 2 43 0 0 T_X6_readTenths := oMet l D ids tb_X6_readTenths (by decide) (fun p e s m args below meth c b Q C hr hlk hnm => oTab_all (tl_X6_readTenths_0 ++ (tl_X6_readTenths_1)) (List.forall_mem_append.mpr ⟨sn_X6_readTenths_0 C hr hlk hnm, sn_X6_readTenths_1 C hr hlk hnm⟩))
theorem dX6_readSteps_0 : decode cX6_readSteps 0 = .ok (.aload_n 0, 1) := by decide +kernel
theorem dX6_readSteps_1 : decode cX6_readSteps 1 = .ok (.getfield 27, 3) := by decide +kernel
theorem dX6_readSteps_4 : decode cX6_readSteps 4 = .ok (.bipush 10, 2) := by decide +kernel
theorem dX6_readSteps_6 : decode cX6_readSteps 6 = .ok (.if_icmp .lt 5, 3) := by decide +kernel
theorem dX6_readSteps_9 : decode cX6_readSteps 9 = .ok (.iconst 0, 1) := by decide +kernel
theorem dX6_readSteps_10 : decode cX6_readSteps 10 = .ok (.ireturn, 1) := by decide +kernel
theorem dX6_readSteps_11 : decode cX6_readSteps 11 = .ok (.aload_n 1, 1) := by decide +kernel
theorem dX6_readSteps_12 : decode cX6_readSteps 12 = .ok (.bipush 102, 2) := by decide +kernel
theorem dX6_readSteps_14 : decode cX6_readSteps 14 = .ok (.invokevirtual 37, 3) := by decide +kernel
theorem dX6_readSteps_17 : decode cX6_readSteps 17 = .ok (.ifCond .eq 7, 3) := by decide +kernel
theorem dX6_readSteps_20 : decode cX6_readSteps 20 = .ok (.iconst 1, 1) := by decide +kernel
theorem dX6_readSteps_21 : decode cX6_readSteps 21 = .ok (.goto 30, 3) := by decide +kernel
theorem dX6_readSteps_24 : decode cX6_readSteps 24 = .ok (.aload_n 1, 1) := by decide +kernel
theorem dX6_readSteps_25 : decode cX6_readSteps 25 = .ok (.bipush 98, 2) := by decide +kernel
theorem dX6_readSteps_27 : decode cX6_readSteps 27 = .ok (.invokevirtual 37, 3) := by decide +kernel
theorem dX6_readSteps_30 : decode cX6_readSteps 30 = .ok (.ifCond .eq 7, 3) := by decide +kernel
theorem dX6_readSteps_33 : decode cX6_readSteps 33 = .ok (.iconst (-1), 1) := by decide +kernel
theorem dX6_readSteps_34 : decode cX6_readSteps 34 = .ok (.goto 17, 3) := by decide +kernel
theorem dX6_readSteps_37 : decode cX6_readSteps 37 = .ok (.aload_n 1, 1) := by decide +kernel
theorem dX6_readSteps_38 : decode cX6_readSteps 38 = .ok (.bipush 115, 2) := by decide +kernel
theorem dX6_readSteps_40 : decode cX6_readSteps 40 = .ok (.invokevirtual 37, 3) := by decide +kernel
theorem dX6_readSteps_43 : decode cX6_readSteps 43 = .ok (.ifCond .eq 7, 3) := by decide +kernel
theorem dX6_readSteps_46 : decode cX6_readSteps 46 = .ok (.iconst 0, 1) := by decide +kernel
theorem dX6_readSteps_47 : decode cX6_readSteps 47 = .ok (.goto 4, 3) := by decide +kernel
theorem dX6_readSteps_50 : decode cX6_readSteps 50 = .ok (.iconst 2, 1) := by decide +kernel
theorem dX6_readSteps_51 : decode cX6_readSteps 51 = .ok (.istore_n 3, 1) := by decide +kernel
theorem dX6_readSteps_52 : decode cX6_readSteps 52 = .ok (.iload_n 3, 1) := by decide +kernel
theorem dX6_readSteps_53 : decode cX6_readSteps 53 = .ok (.iconst 2, 1) := by decide +kernel
theorem dX6_readSteps_54 : decode cX6_readSteps 54 = .ok (.if_icmp .ne 5, 3) := by decide +kernel
theorem dX6_readSteps_57 : decode cX6_readSteps 57 = .ok (.iconst 0, 1) := by decide +kernel
theorem dX6_readSteps_58 : decode cX6_readSteps 58 = .ok (.ireturn, 1) := by decide +kernel
theorem dX6_readSteps_59 : decode cX6_readSteps 59 = .ok (.aload_n 1, 1) := by decide +kernel
theorem dX6_readSteps_60 : decode cX6_readSteps 60 = .ok (.iconst 2, 1) := by decide +kernel
theorem dX6_readSteps_61 : decode cX6_readSteps 61 = .ok (.bipush 9, 2) := by decide +kernel
theorem dX6_readSteps_63 : decode cX6_readSteps 63 = .ok (.bipush 10, 2) := by decide +kernel
theorem dX6_readSteps_65 : decode cX6_readSteps 65 = .ok (.aload_n 0, 1) := by decide +kernel
theorem dX6_readSteps_66 : decode cX6_readSteps 66 = .ok (.getfield 27, 3) := by decide +kernel
theorem dX6_readSteps_69 : decode cX6_readSteps 69 = .ok (.isub, 1) := by decide +kernel
theorem dX6_readSteps_70 : decode cX6_readSteps 70 = .ok (.invokestatic 59, 3) := by decide +kernel
theorem dX6_readSteps_73 : decode cX6_readSteps 73 = .ok (.invokevirtual 52, 3) := by decide +kernel
theorem dX6_readSteps_76 : decode cX6_readSteps 76 = .ok (.istore 4, 2) := by decide +kernel
theorem dX6_readSteps_78 : decode cX6_readSteps 78 = .ok (.aload_n 0, 1) := by decide +kernel
theorem dX6_readSteps_79 : decode cX6_readSteps 79 = .ok (.iload_n 3, 1) := by decide +kernel
theorem dX6_readSteps_80 : decode cX6_readSteps 80 = .ok (.iload 4, 2) := by decide +kernel
theorem dX6_readSteps_82 : decode cX6_readSteps 82 = .ok (.ifCond .ge 7, 3) := by decide +kernel
theorem dX6_readSteps_85 : decode cX6_readSteps 85 = .ok (.iconst 1, 1) := by decide +kernel
theorem dX6_readSteps_86 : decode cX6_readSteps 86 = .ok (.goto 5, 3) := by decide +kernel
theorem dX6_readSteps_89 : decode cX6_readSteps 89 = .ok (.iload 4, 2) := by decide +kernel
theorem dX6_readSteps_91 : decode cX6_readSteps 91 = .ok (.iload_n 2, 1) := by decide +kernel
theorem dX6_readSteps_92 : decode cX6_readSteps 92 = .ok (.invokevirtual 55, 3) := by decide +kernel
theorem dX6_readSteps_95 : decode cX6_readSteps 95 = .ok (.iconst 1, 1) := by decide +kernel
theorem dX6_readSteps_96 : decode cX6_readSteps 96 = .ok (.ireturn, 1) := by decide +kernel
abbrev tl_X6_readSteps_0 : List (Nat × oOp) := [(0, o_ald 0 1), (1, o_getI [6] 0 4), (4, o_push (vI 10) 6), (6, o_ic pLt 11 9), (9, o_push (vI 0) 10), (10, o_retz 0 0), (11, o_ald 1 12), (12, o_push (vI 102) 14), (14, o_callo T_X8_take 8 1 0 0 0 0 17), (17, o_if zEq 24 20), (20, o_push (vI 1) 21), (21, o_go 51), (24, o_ald 1 25), (25, o_push (vI 98) 27), (27, o_callo T_X8_take 8 1 0 0 0 0 30), (30, o_if zEq 37 33), (33, o_push (vI (-1)) 34), (34, o_go 51), (37, o_ald 1 38), (38, o_push (vI 115) 40), (40, o_callo T_X8_take 8 1 0 0 0 0 43), (43, o_if zEq 50 46), (46, o_push (vI 0) 47), (47, o_go 51)]
abbrev tl_X6_readSteps_1 : List (Nat × oOp) := [(50, o_push (vI 2) 51), (51, o_ist 3 52), (52, o_ild 3 53), (53, o_push (vI 2) 54), (54, o_ic pNe 59 57), (57, o_push (vI 0) 58), (58, o_retz 0 0), (59, o_ald 1 60), (60, o_push (vI 2) 61), (61, o_push (vI 9) 63), (63, o_push (vI 10) 65), (65, o_ald 0 66), (66, o_getI [6] 0 69), (69, o_ib fSub 70), (70, o_math2 fMin 0 0 73), (73, o_callo T_X8_digit 8 2 0 0 0 0 76), (76, o_ist 4 78), (78, o_ald 0 79), (79, o_ild 3 80), (80, o_ild 4 82), (82, o_if zGe 89 85), (85, o_push (vI 1) 86), (86, o_go 91), (89, o_ild 4 91)]
abbrev tl_X6_readSteps_2 : List (Nat × oOp) := [(91, o_ild 2 92), (92, o_callo T_X6_addDays 6 3 0 0 0 0 95), (95, o_push (vI 1) 96), (96, o_retz 0 0)]
set_option maxRecDepth 20000 in
def tb_X6_readSteps : Nat → oOp := oTab [(0, o_ald 0 1), (1, o_getI [6] 0 4), (4, o_push (vI 10) 6), (6, o_ic pLt 11 9), (9, o_push (vI 0) 10), (10, o_retz 0 0), (11, o_ald 1 12), (12, o_push (vI 102) 14), (14, o_callo T_X8_take 8 1 0 0 0 0 17), (17, o_if zEq 24 20), (20, o_push (vI 1) 21), (21, o_go 51), (24, o_ald 1 25), (25, o_push (vI 98) 27), (27, o_callo T_X8_take 8 1 0 0 0 0 30), (30, o_if zEq 37 33), (33, o_push (vI (-1)) 34), (34, o_go 51), (37, o_ald 1 38), (38, o_push (vI 115) 40), (40, o_callo T_X8_take 8 1 0 0 0 0 43), (43, o_if zEq 50 46), (46, o_push (vI 0) 47), (47, o_go 51), (50, o_push (vI 2) 51), (51, o_ist 3 52), (52, o_ild 3 53), (53, o_push (vI 2) 54), (54, o_ic pNe 59 57), (57, o_push (vI 0) 58), (58, o_retz 0 0), (59, o_ald 1 60), (60, o_push (vI 2) 61), (61, o_push (vI 9) 63), (63, o_push (vI 10) 65), (65, o_ald 0 66), (66, o_getI [6] 0 69), (69, o_ib fSub 70), (70, o_math2 fMin 0 0 73), (73, o_callo T_X8_digit 8 2 0 0 0 0 76), (76, o_ist 4 78), (78, o_ald 0 79), (79, o_ild 3 80), (80, o_ild 4 82), (82, o_if zGe 89 85), (85, o_push (vI 1) 86), (86, o_go 91), (89, o_ild 4 91), (91, o_ild 2 92), (92, o_callo T_X6_addDays 6 3 0 0 0 0 95), (95, o_push (vI 1) 96), (96, o_retz 0 0)]
def T_X6_readSteps : List oA → oM → oQ → Prop := oT tb_X6_readSteps 5
set_option maxRecDepth 20000 in
theorem sn_X6_readSteps_0 {p : Program} {l : Launch} {e : Env} {s : State} {m : MethodId} {args : Array Value} {below : List Frame} {meth : Method} {c : Code} {D : va_G} {ids : Nat → ClassId} {b : Nat} {Q : oQ} (C : oCx p s m args c cX6_readSteps 5 (yX6_readSteps).cls D ids b) (hr : meth.sig.returnType = (some .boolean)) (hlk : meth.locks = false) (hnm : meth.name = (yX6_readSteps).name) : ∀ q ∈ tl_X6_readSteps_0, oSn (oW p l e (oRm 2 43 0 0) s m args below meth c 5 D ids b (oMQ D ids b below Q args s 0 0)) Q q.1 q.2 := List.forall_mem_cons.mpr ⟨so_aload_n C 0 rfl dX6_readSteps_0, List.forall_mem_cons.mpr ⟨so_getI C [6] 0 (fd_RX6_27_6 C) (by decide) dX6_readSteps_1, List.forall_mem_cons.mpr ⟨so_bipush C 10 rfl dX6_readSteps_4, List.forall_mem_cons.mpr ⟨so_ic_lt C (by decide) dX6_readSteps_6, List.forall_mem_cons.mpr ⟨so_iconst C 0 rfl dX6_readSteps_9, List.forall_mem_cons.mpr ⟨so_retz C 0 0 hr hlk dX6_readSteps_10, List.forall_mem_cons.mpr ⟨so_aload_n C 1 rfl dX6_readSteps_11, List.forall_mem_cons.mpr ⟨so_bipush C 102 rfl dX6_readSteps_12, List.forall_mem_cons.mpr ⟨so_callV C (y := yX8_take) 8 1 0 0 (RX8, TX8, 3) (by decide) rfl rfl ⟨Nat.le_refl _, Nat.le_refl _⟩ (c_X8_take l D ids) kw_374 kw_401 kw_372 kw_373 kw_2 hy_X8_take ⟨Nat.le_of_ble_eq_true rfl, Nat.le_of_ble_eq_true rfl⟩ dX6_readSteps_14, List.forall_mem_cons.mpr ⟨so_if_eq C (by decide) dX6_readSteps_17, List.forall_mem_cons.mpr ⟨so_iconst C 1 rfl dX6_readSteps_20, List.forall_mem_cons.mpr ⟨so_goto C (by decide) dX6_readSteps_21, List.forall_mem_cons.mpr ⟨so_aload_n C 1 rfl dX6_readSteps_24, List.forall_mem_cons.mpr ⟨so_bipush C 98 rfl dX6_readSteps_25, List.forall_mem_cons.mpr ⟨so_callV C (y := yX8_take) 8 1 0 0 (RX8, TX8, 3) (by decide) rfl rfl ⟨Nat.le_refl _, Nat.le_refl _⟩ (c_X8_take l D ids) kw_374 kw_401 kw_372 kw_373 kw_2 hy_X8_take ⟨Nat.le_of_ble_eq_true rfl, Nat.le_of_ble_eq_true rfl⟩ dX6_readSteps_27, List.forall_mem_cons.mpr ⟨so_if_eq C (by decide) dX6_readSteps_30, List.forall_mem_cons.mpr ⟨so_iconst C (-1) rfl dX6_readSteps_33, List.forall_mem_cons.mpr ⟨so_goto C (by decide) dX6_readSteps_34, List.forall_mem_cons.mpr ⟨so_aload_n C 1 rfl dX6_readSteps_37, List.forall_mem_cons.mpr ⟨so_bipush C 115 rfl dX6_readSteps_38, List.forall_mem_cons.mpr ⟨so_callV C (y := yX8_take) 8 1 0 0 (RX8, TX8, 3) (by decide) rfl rfl ⟨Nat.le_refl _, Nat.le_refl _⟩ (c_X8_take l D ids) kw_374 kw_401 kw_372 kw_373 kw_2 hy_X8_take ⟨Nat.le_of_ble_eq_true rfl, Nat.le_of_ble_eq_true rfl⟩ dX6_readSteps_40, List.forall_mem_cons.mpr ⟨so_if_eq C (by decide) dX6_readSteps_43, List.forall_mem_cons.mpr ⟨so_iconst C 0 rfl dX6_readSteps_46, List.forall_mem_cons.mpr ⟨so_goto C (by decide) dX6_readSteps_47, fun _ h => absurd h List.not_mem_nil⟩⟩⟩⟩⟩⟩⟩⟩⟩⟩⟩⟩⟩⟩⟩⟩⟩⟩⟩⟩⟩⟩⟩⟩
set_option maxRecDepth 20000 in
theorem sn_X6_readSteps_1 {p : Program} {l : Launch} {e : Env} {s : State} {m : MethodId} {args : Array Value} {below : List Frame} {meth : Method} {c : Code} {D : va_G} {ids : Nat → ClassId} {b : Nat} {Q : oQ} (C : oCx p s m args c cX6_readSteps 5 (yX6_readSteps).cls D ids b) (hr : meth.sig.returnType = (some .boolean)) (hlk : meth.locks = false) (hnm : meth.name = (yX6_readSteps).name) : ∀ q ∈ tl_X6_readSteps_1, oSn (oW p l e (oRm 2 43 0 0) s m args below meth c 5 D ids b (oMQ D ids b below Q args s 0 0)) Q q.1 q.2 := List.forall_mem_cons.mpr ⟨so_iconst C 2 rfl dX6_readSteps_50, List.forall_mem_cons.mpr ⟨so_istore_n C 3 rfl (by decide) dX6_readSteps_51, List.forall_mem_cons.mpr ⟨so_iload_n C 3 rfl dX6_readSteps_52, List.forall_mem_cons.mpr ⟨so_iconst C 2 rfl dX6_readSteps_53, List.forall_mem_cons.mpr ⟨so_ic_ne C (by decide) dX6_readSteps_54, List.forall_mem_cons.mpr ⟨so_iconst C 0 rfl dX6_readSteps_57, List.forall_mem_cons.mpr ⟨so_retz C 0 0 hr hlk dX6_readSteps_58, List.forall_mem_cons.mpr ⟨so_aload_n C 1 rfl dX6_readSteps_59, List.forall_mem_cons.mpr ⟨so_iconst C 2 rfl dX6_readSteps_60, List.forall_mem_cons.mpr ⟨so_bipush C 9 rfl dX6_readSteps_61, List.forall_mem_cons.mpr ⟨so_bipush C 10 rfl dX6_readSteps_63, List.forall_mem_cons.mpr ⟨so_aload_n C 0 rfl dX6_readSteps_65, List.forall_mem_cons.mpr ⟨so_getI C [6] 0 (fd_RX6_27_6 C) (by decide) dX6_readSteps_66, List.forall_mem_cons.mpr ⟨so_isub C dX6_readSteps_69, List.forall_mem_cons.mpr ⟨so_min C 0 0 ⟨Nat.le_refl _, Nat.le_refl _⟩ kw_416 kw_417 kw_12 kw_418 (by decide) (by decide) dX6_readSteps_70, List.forall_mem_cons.mpr ⟨so_callV C (y := yX8_digit) 8 2 0 0 (RX8, TX8, 3) (by decide) rfl rfl ⟨Nat.le_refl _, Nat.le_refl _⟩ (c_X8_digit l D ids) kw_386 kw_407 kw_384 kw_385 kw_2 hy_X8_digit ⟨Nat.le_of_ble_eq_true rfl, Nat.le_of_ble_eq_true rfl⟩ dX6_readSteps_73, List.forall_mem_cons.mpr ⟨so_istore C 4 (by decide) dX6_readSteps_76, List.forall_mem_cons.mpr ⟨so_aload_n C 0 rfl dX6_readSteps_78, List.forall_mem_cons.mpr ⟨so_iload_n C 3 rfl dX6_readSteps_79, List.forall_mem_cons.mpr ⟨so_iload C 4 dX6_readSteps_80, List.forall_mem_cons.mpr ⟨so_if_ge C (by decide) dX6_readSteps_82, List.forall_mem_cons.mpr ⟨so_iconst C 1 rfl dX6_readSteps_85, List.forall_mem_cons.mpr ⟨so_goto C (by decide) dX6_readSteps_86, List.forall_mem_cons.mpr ⟨so_iload C 4 dX6_readSteps_89, fun _ h => absurd h List.not_mem_nil⟩⟩⟩⟩⟩⟩⟩⟩⟩⟩⟩⟩⟩⟩⟩⟩⟩⟩⟩⟩⟩⟩⟩⟩
set_option maxRecDepth 20000 in
theorem sn_X6_readSteps_2 {p : Program} {l : Launch} {e : Env} {s : State} {m : MethodId} {args : Array Value} {below : List Frame} {meth : Method} {c : Code} {D : va_G} {ids : Nat → ClassId} {b : Nat} {Q : oQ} (C : oCx p s m args c cX6_readSteps 5 (yX6_readSteps).cls D ids b) (hr : meth.sig.returnType = (some .boolean)) (hlk : meth.locks = false) (hnm : meth.name = (yX6_readSteps).name) : ∀ q ∈ tl_X6_readSteps_2, oSn (oW p l e (oRm 2 43 0 0) s m args below meth c 5 D ids b (oMQ D ids b below Q args s 0 0)) Q q.1 q.2 := List.forall_mem_cons.mpr ⟨so_iload_n C 2 rfl dX6_readSteps_91, List.forall_mem_cons.mpr ⟨so_callV C (y := yX6_addDays) 6 3 0 0 (RX6, TX6, 5) (by decide) rfl rfl ⟨Nat.le_refl _, Nat.le_refl _⟩ (c_X6_addDays l D ids) kw_411 kw_408 kw_410 kp_4 kw_4 hy_X6_addDays ⟨Nat.le_of_ble_eq_true rfl, Nat.le_of_ble_eq_true rfl⟩ dX6_readSteps_92, List.forall_mem_cons.mpr ⟨so_iconst C 1 rfl dX6_readSteps_95, List.forall_mem_cons.mpr ⟨so_retz C 0 0 hr hlk dX6_readSteps_96, fun _ h => absurd h List.not_mem_nil⟩⟩⟩⟩
set_option maxRecDepth 20000 in
theorem c_X6_readSteps (l : Launch) (D : va_G) (ids : Nat → ClassId) : oMT l D ids yX6_readSteps cX6_readSteps 5 (some .boolean) 2 43 0 0 T_X6_readSteps := oMet l D ids tb_X6_readSteps (by decide) (fun p e s m args below meth c b Q C hr hlk hnm => oTab_all (tl_X6_readSteps_0 ++ (tl_X6_readSteps_1 ++ (tl_X6_readSteps_2))) (List.forall_mem_append.mpr ⟨sn_X6_readSteps_0 C hr hlk hnm, List.forall_mem_append.mpr ⟨sn_X6_readSteps_1 C hr hlk hnm, sn_X6_readSteps_2 C hr hlk hnm⟩⟩))
theorem dX6_read_0 : decode cX6_read 0 = .ok (.aload_n 1, 1) := by decide +kernel
theorem dX6_read_1 : decode cX6_read 1 = .ok (.iconst 0, 1) := by decide +kernel
theorem dX6_read_2 : decode cX6_read 2 = .ok (.putfield 21, 3) := by decide +kernel
theorem dX6_read_5 : decode cX6_read 5 = .ok (.aload_n 0, 1) := by decide +kernel
theorem dX6_read_6 : decode cX6_read 6 = .ok (.iconst 0, 1) := by decide +kernel
theorem dX6_read_7 : decode cX6_read 7 = .ok (.putfield 27, 3) := by decide +kernel
theorem dX6_read_10 : decode cX6_read 10 = .ok (.aload_n 0, 1) := by decide +kernel
theorem dX6_read_11 : decode cX6_read 11 = .ok (.iconst 0, 1) := by decide +kernel
theorem dX6_read_12 : decode cX6_read 12 = .ok (.putfield 30, 3) := by decide +kernel
theorem dX6_read_15 : decode cX6_read 15 = .ok (.aload_n 1, 1) := by decide +kernel
theorem dX6_read_16 : decode cX6_read 16 = .ok (.iconst 1, 1) := by decide +kernel
theorem dX6_read_17 : decode cX6_read 17 = .ok (.iconst 2, 1) := by decide +kernel
theorem dX6_read_18 : decode cX6_read 18 = .ok (.invokevirtual 33, 3) := by decide +kernel
theorem dX6_read_21 : decode cX6_read 21 = .ok (.istore_n 2, 1) := by decide +kernel
theorem dX6_read_22 : decode cX6_read 22 = .ok (.iload_n 2, 1) := by decide +kernel
theorem dX6_read_23 : decode cX6_read 23 = .ok (.ifCond .lt 12, 3) := by decide +kernel
theorem dX6_read_26 : decode cX6_read 26 = .ok (.aload_n 1, 1) := by decide +kernel
theorem dX6_read_27 : decode cX6_read 27 = .ok (.bipush 58, 2) := by decide +kernel
theorem dX6_read_29 : decode cX6_read 29 = .ok (.invokevirtual 37, 3) := by decide +kernel
theorem dX6_read_32 : decode cX6_read 32 = .ok (.ifCond .ne 5, 3) := by decide +kernel
theorem dX6_read_35 : decode cX6_read 35 = .ok (.iconst 0, 1) := by decide +kernel
theorem dX6_read_36 : decode cX6_read 36 = .ok (.ireturn, 1) := by decide +kernel
theorem dX6_read_37 : decode cX6_read 37 = .ok (.iconst 0, 1) := by decide +kernel
theorem dX6_read_38 : decode cX6_read 38 = .ok (.istore_n 3, 1) := by decide +kernel
theorem dX6_read_39 : decode cX6_read 39 = .ok (.iload_n 3, 1) := by decide +kernel
theorem dX6_read_40 : decode cX6_read 40 = .ok (.bipush 60, 2) := by decide +kernel
theorem dX6_read_42 : decode cX6_read 42 = .ok (.if_icmp .ge 98, 3) := by decide +kernel
theorem dX6_read_45 : decode cX6_read 45 = .ok (.aload_n 1, 1) := by decide +kernel
theorem dX6_read_46 : decode cX6_read 46 = .ok (.invokevirtual 41, 3) := by decide +kernel
theorem dX6_read_49 : decode cX6_read 49 = .ok (.ifCond .ne 91, 3) := by decide +kernel
theorem dX6_read_52 : decode cX6_read 52 = .ok (.aload_n 1, 1) := by decide +kernel
theorem dX6_read_53 : decode cX6_read 53 = .ok (.bipush 109, 2) := by decide +kernel
theorem dX6_read_55 : decode cX6_read 55 = .ok (.invokevirtual 37, 3) := by decide +kernel
theorem dX6_read_58 : decode cX6_read 58 = .ok (.ifCond .eq 24, 3) := by decide +kernel
theorem dX6_read_61 : decode cX6_read 61 = .ok (.aload_n 1, 1) := by decide +kernel
theorem dX6_read_62 : decode cX6_read 62 = .ok (.iconst 1, 1) := by decide +kernel
theorem dX6_read_63 : decode cX6_read 63 = .ok (.iconst 2, 1) := by decide +kernel
theorem dX6_read_64 : decode cX6_read 64 = .ok (.invokevirtual 33, 3) := by decide +kernel
theorem dX6_read_67 : decode cX6_read 67 = .ok (.istore_n 2, 1) := by decide +kernel
theorem dX6_read_68 : decode cX6_read 68 = .ok (.iload_n 2, 1) := by decide +kernel
theorem dX6_read_69 : decode cX6_read 69 = .ok (.ifCond .le 7, 3) := by decide +kernel
theorem dX6_read_72 : decode cX6_read 72 = .ok (.iconst 1, 1) := by decide +kernel
theorem dX6_read_73 : decode cX6_read 73 = .ok (.goto 4, 3) := by decide +kernel
theorem dX6_read_76 : decode cX6_read 76 = .ok (.iconst 0, 1) := by decide +kernel
theorem dX6_read_77 : decode cX6_read 77 = .ok (.istore 4, 2) := by decide +kernel
theorem dX6_read_79 : decode cX6_read 79 = .ok (.goto 48, 3) := by decide +kernel
theorem dX6_read_82 : decode cX6_read 82 = .ok (.aload_n 0, 1) := by decide +kernel
theorem dX6_read_83 : decode cX6_read 83 = .ok (.getfield 27, 3) := by decide +kernel
theorem dX6_read_86 : decode cX6_read 86 = .ok (.bipush 10, 2) := by decide +kernel
theorem dX6_read_88 : decode cX6_read 88 = .ok (.if_icmp .ge 31, 3) := by decide +kernel
theorem dX6_read_91 : decode cX6_read 91 = .ok (.aload_n 0, 1) := by decide +kernel
theorem dX6_read_92 : decode cX6_read 92 = .ok (.getfield 30, 3) := by decide +kernel
theorem dX6_read_95 : decode cX6_read 95 = .ok (.iconst 2, 1) := by decide +kernel
theorem dX6_read_96 : decode cX6_read 96 = .ok (.if_icmp .ge 23, 3) := by decide +kernel
theorem dX6_read_99 : decode cX6_read 99 = .ok (.aload_n 1, 1) := by decide +kernel
theorem dX6_read_100 : decode cX6_read 100 = .ok (.bipush 99, 2) := by decide +kernel
theorem dX6_read_102 : decode cX6_read 102 = .ok (.invokevirtual 37, 3) := by decide +kernel
theorem dX6_read_105 : decode cX6_read 105 = .ok (.ifCond .eq 14, 3) := by decide +kernel
theorem dX6_read_108 : decode cX6_read 108 = .ok (.aload_n 0, 1) := by decide +kernel
theorem dX6_read_109 : decode cX6_read 109 = .ok (.aload_n 1, 1) := by decide +kernel
theorem dX6_read_110 : decode cX6_read 110 = .ok (.iload_n 2, 1) := by decide +kernel
theorem dX6_read_111 : decode cX6_read 111 = .ok (.invokevirtual 45, 3) := by decide +kernel
theorem dX6_read_114 : decode cX6_read 114 = .ok (.istore 4, 2) := by decide +kernel
theorem dX6_read_116 : decode cX6_read 116 = .ok (.goto 11, 3) := by decide +kernel
theorem dX6_read_119 : decode cX6_read 119 = .ok (.aload_n 0, 1) := by decide +kernel
theorem dX6_read_120 : decode cX6_read 120 = .ok (.aload_n 1, 1) := by decide +kernel
theorem dX6_read_121 : decode cX6_read 121 = .ok (.iload_n 2, 1) := by decide +kernel
theorem dX6_read_122 : decode cX6_read 122 = .ok (.invokevirtual 49, 3) := by decide +kernel
theorem dX6_read_125 : decode cX6_read 125 = .ok (.istore 4, 2) := by decide +kernel
theorem dX6_read_127 : decode cX6_read 127 = .ok (.iload 4, 2) := by decide +kernel
theorem dX6_read_129 : decode cX6_read 129 = .ok (.ifCond .ne 5, 3) := by decide +kernel
theorem dX6_read_132 : decode cX6_read 132 = .ok (.iconst 0, 1) := by decide +kernel
theorem dX6_read_133 : decode cX6_read 133 = .ok (.ireturn, 1) := by decide +kernel
theorem dX6_read_134 : decode cX6_read 134 = .ok (.iinc 3 1, 3) := by decide +kernel
theorem dX6_read_137 : decode cX6_read 137 = .ok (.goto (-98), 3) := by decide +kernel
theorem dX6_read_140 : decode cX6_read 140 = .ok (.aload_n 0, 1) := by decide +kernel
theorem dX6_read_141 : decode cX6_read 141 = .ok (.getfield 27, 3) := by decide +kernel
theorem dX6_read_144 : decode cX6_read 144 = .ok (.ifCond .le 7, 3) := by decide +kernel
theorem dX6_read_147 : decode cX6_read 147 = .ok (.iconst 1, 1) := by decide +kernel
theorem dX6_read_148 : decode cX6_read 148 = .ok (.goto 4, 3) := by decide +kernel
theorem dX6_read_151 : decode cX6_read 151 = .ok (.iconst 0, 1) := by decide +kernel
theorem dX6_read_152 : decode cX6_read 152 = .ok (.ireturn, 1) := by decide +kernel
abbrev tl_X6_read_0 : List (Nat × oOp) := [(0, o_ald 1 1), (1, o_push (vI 0) 2), (2, o_putI [8] 2 5), (5, o_ald 0 6), (6, o_push (vI 0) 7), (7, o_putI [6] 0 10), (10, o_ald 0 11), (11, o_push (vI 0) 12), (12, o_putI [6] 1 15), (15, o_ald 1 16), (16, o_push (vI 1) 17), (17, o_push (vI 2) 18), (18, o_callo T_X8_number 8 2 0 0 0 0 21), (21, o_ist 2 22), (22, o_ild 2 23), (23, o_if zLt 35 26), (26, o_ald 1 27), (27, o_push (vI 58) 29), (29, o_callo T_X8_take 8 1 0 0 0 0 32), (32, o_if zNe 37 35), (35, o_push (vI 0) 36), (36, o_retz 0 0), (37, o_push (vI 0) 38), (38, o_ist 3 39)]
abbrev tl_X6_read_1 : List (Nat × oOp) := [(39, o_ild 3 40), (40, o_push (vI 60) 42), (42, o_ic pGe 140 45), (45, o_ald 1 46), (46, o_callo T_X8_atEnd 8 0 0 0 0 0 49), (49, o_if zNe 140 52), (52, o_ald 1 53), (53, o_push (vI 109) 55), (55, o_callo T_X8_take 8 1 0 0 0 0 58), (58, o_if zEq 82 61), (61, o_ald 1 62), (62, o_push (vI 1) 63), (63, o_push (vI 2) 64), (64, o_callo T_X8_number 8 2 0 0 0 0 67), (67, o_ist 2 68), (68, o_ild 2 69), (69, o_if zLe 76 72), (72, o_push (vI 1) 73), (73, o_go 77), (76, o_push (vI 0) 77), (77, o_ist 4 79), (79, o_go 127), (82, o_ald 0 83), (83, o_getI [6] 0 86)]
abbrev tl_X6_read_2 : List (Nat × oOp) := [(86, o_push (vI 10) 88), (88, o_ic pGe 119 91), (91, o_ald 0 92), (92, o_getI [6] 1 95), (95, o_push (vI 2) 96), (96, o_ic pGe 119 99), (99, o_ald 1 100), (100, o_push (vI 99) 102), (102, o_callo T_X8_take 8 1 0 0 0 0 105), (105, o_if zEq 119 108), (108, o_ald 0 109), (109, o_ald 1 110), (110, o_ild 2 111), (111, o_callo T_X6_readTenths 6 2 0 0 0 0 114), (114, o_ist 4 116), (116, o_go 127), (119, o_ald 0 120), (120, o_ald 1 121), (121, o_ild 2 122), (122, o_callo T_X6_readSteps 6 2 0 0 0 0 125), (125, o_ist 4 127), (127, o_ild 4 129), (129, o_if zNe 134 132), (132, o_push (vI 0) 133)]
abbrev tl_X6_read_3 : List (Nat × oOp) := [(133, o_retz 0 0), (134, o_inc 3 1 137), (137, o_go 39), (140, o_ald 0 141), (141, o_getI [6] 0 144), (144, o_if zLe 151 147), (147, o_push (vI 1) 148), (148, o_go 152), (151, o_push (vI 0) 152), (152, o_retz 0 0)]
set_option maxRecDepth 20000 in
def tb_X6_read : Nat → oOp := oTab [(0, o_ald 1 1), (1, o_push (vI 0) 2), (2, o_putI [8] 2 5), (5, o_ald 0 6), (6, o_push (vI 0) 7), (7, o_putI [6] 0 10), (10, o_ald 0 11), (11, o_push (vI 0) 12), (12, o_putI [6] 1 15), (15, o_ald 1 16), (16, o_push (vI 1) 17), (17, o_push (vI 2) 18), (18, o_callo T_X8_number 8 2 0 0 0 0 21), (21, o_ist 2 22), (22, o_ild 2 23), (23, o_if zLt 35 26), (26, o_ald 1 27), (27, o_push (vI 58) 29), (29, o_callo T_X8_take 8 1 0 0 0 0 32), (32, o_if zNe 37 35), (35, o_push (vI 0) 36), (36, o_retz 0 0), (37, o_push (vI 0) 38), (38, o_ist 3 39), (39, o_ild 3 40), (40, o_push (vI 60) 42), (42, o_ic pGe 140 45), (45, o_ald 1 46), (46, o_callo T_X8_atEnd 8 0 0 0 0 0 49), (49, o_if zNe 140 52), (52, o_ald 1 53), (53, o_push (vI 109) 55), (55, o_callo T_X8_take 8 1 0 0 0 0 58), (58, o_if zEq 82 61), (61, o_ald 1 62), (62, o_push (vI 1) 63), (63, o_push (vI 2) 64), (64, o_callo T_X8_number 8 2 0 0 0 0 67), (67, o_ist 2 68), (68, o_ild 2 69), (69, o_if zLe 76 72), (72, o_push (vI 1) 73), (73, o_go 77), (76, o_push (vI 0) 77), (77, o_ist 4 79), (79, o_go 127), (82, o_ald 0 83), (83, o_getI [6] 0 86), (86, o_push (vI 10) 88), (88, o_ic pGe 119 91), (91, o_ald 0 92), (92, o_getI [6] 1 95), (95, o_push (vI 2) 96), (96, o_ic pGe 119 99), (99, o_ald 1 100), (100, o_push (vI 99) 102), (102, o_callo T_X8_take 8 1 0 0 0 0 105), (105, o_if zEq 119 108), (108, o_ald 0 109), (109, o_ald 1 110), (110, o_ild 2 111), (111, o_callo T_X6_readTenths 6 2 0 0 0 0 114), (114, o_ist 4 116), (116, o_go 127), (119, o_ald 0 120), (120, o_ald 1 121), (121, o_ild 2 122), (122, o_callo T_X6_readSteps 6 2 0 0 0 0 125), (125, o_ist 4 127), (127, o_ild 4 129), (129, o_if zNe 134 132), (132, o_push (vI 0) 133), (133, o_retz 0 0), (134, o_inc 3 1 137), (137, o_go 39), (140, o_ald 0 141), (141, o_getI [6] 0 144), (144, o_if zLe 151 147), (147, o_push (vI 1) 148), (148, o_go 152), (151, o_push (vI 0) 152), (152, o_retz 0 0)]
def T_X6_read : List oA → oM → oQ → Prop := oT tb_X6_read 5
set_option maxRecDepth 20000 in
theorem sn_X6_read_0 {p : Program} {l : Launch} {e : Env} {s : State} {m : MethodId} {args : Array Value} {below : List Frame} {meth : Method} {c : Code} {D : va_G} {ids : Nat → ClassId} {b : Nat} {Q : oQ} (C : oCx p s m args c cX6_read 5 (yX6_read).cls D ids b) (hr : meth.sig.returnType = (some .boolean)) (hlk : meth.locks = false) (hnm : meth.name = (yX6_read).name) : ∀ q ∈ tl_X6_read_0, oSn (oW p l e (oRm 3 68 0 0) s m args below meth c 5 D ids b (oMQ D ids b below Q args s 0 0)) Q q.1 q.2 := List.forall_mem_cons.mpr ⟨so_aload_n C 1 rfl dX6_read_0, List.forall_mem_cons.mpr ⟨so_iconst C 0 rfl dX6_read_1, List.forall_mem_cons.mpr ⟨so_putI C [8] 2 (fd_RX6_21_8 C) (fn_8_2) (by decide) dX6_read_2, List.forall_mem_cons.mpr ⟨so_aload_n C 0 rfl dX6_read_5, List.forall_mem_cons.mpr ⟨so_iconst C 0 rfl dX6_read_6, List.forall_mem_cons.mpr ⟨so_putI C [6] 0 (fd_RX6_27_6 C) (fn_6_0) (by decide) dX6_read_7, List.forall_mem_cons.mpr ⟨so_aload_n C 0 rfl dX6_read_10, List.forall_mem_cons.mpr ⟨so_iconst C 0 rfl dX6_read_11, List.forall_mem_cons.mpr ⟨so_putI C [6] 1 (fd_RX6_30_6 C) (fn_6_1) (by decide) dX6_read_12, List.forall_mem_cons.mpr ⟨so_aload_n C 1 rfl dX6_read_15, List.forall_mem_cons.mpr ⟨so_iconst C 1 rfl dX6_read_16, List.forall_mem_cons.mpr ⟨so_iconst C 2 rfl dX6_read_17, List.forall_mem_cons.mpr ⟨so_callV C (y := yX8_number) 8 2 0 0 (RX8, TX8, 3) (by decide) rfl rfl ⟨Nat.le_refl _, Nat.le_refl _⟩ (c_X8_number l D ids) kw_382 kw_400 kw_380 kw_381 kw_2 hy_X8_number ⟨Nat.le_of_ble_eq_true rfl, Nat.le_of_ble_eq_true rfl⟩ dX6_read_18, List.forall_mem_cons.mpr ⟨so_istore_n C 2 rfl (by decide) dX6_read_21, List.forall_mem_cons.mpr ⟨so_iload_n C 2 rfl dX6_read_22, List.forall_mem_cons.mpr ⟨so_if_lt C (by decide) dX6_read_23, List.forall_mem_cons.mpr ⟨so_aload_n C 1 rfl dX6_read_26, List.forall_mem_cons.mpr ⟨so_bipush C 58 rfl dX6_read_27, List.forall_mem_cons.mpr ⟨so_callV C (y := yX8_take) 8 1 0 0 (RX8, TX8, 3) (by decide) rfl rfl ⟨Nat.le_refl _, Nat.le_refl _⟩ (c_X8_take l D ids) kw_374 kw_401 kw_372 kw_373 kw_2 hy_X8_take ⟨Nat.le_of_ble_eq_true rfl, Nat.le_of_ble_eq_true rfl⟩ dX6_read_29, List.forall_mem_cons.mpr ⟨so_if_ne C (by decide) dX6_read_32, List.forall_mem_cons.mpr ⟨so_iconst C 0 rfl dX6_read_35, List.forall_mem_cons.mpr ⟨so_retz C 0 0 hr hlk dX6_read_36, List.forall_mem_cons.mpr ⟨so_iconst C 0 rfl dX6_read_37, List.forall_mem_cons.mpr ⟨so_istore_n C 3 rfl (by decide) dX6_read_38, fun _ h => absurd h List.not_mem_nil⟩⟩⟩⟩⟩⟩⟩⟩⟩⟩⟩⟩⟩⟩⟩⟩⟩⟩⟩⟩⟩⟩⟩⟩
set_option maxRecDepth 20000 in
theorem sn_X6_read_1 {p : Program} {l : Launch} {e : Env} {s : State} {m : MethodId} {args : Array Value} {below : List Frame} {meth : Method} {c : Code} {D : va_G} {ids : Nat → ClassId} {b : Nat} {Q : oQ} (C : oCx p s m args c cX6_read 5 (yX6_read).cls D ids b) (hr : meth.sig.returnType = (some .boolean)) (hlk : meth.locks = false) (hnm : meth.name = (yX6_read).name) : ∀ q ∈ tl_X6_read_1, oSn (oW p l e (oRm 3 68 0 0) s m args below meth c 5 D ids b (oMQ D ids b below Q args s 0 0)) Q q.1 q.2 := List.forall_mem_cons.mpr ⟨so_iload_n C 3 rfl dX6_read_39, List.forall_mem_cons.mpr ⟨so_bipush C 60 rfl dX6_read_40, List.forall_mem_cons.mpr ⟨so_ic_ge C (by decide) dX6_read_42, List.forall_mem_cons.mpr ⟨so_aload_n C 1 rfl dX6_read_45, List.forall_mem_cons.mpr ⟨so_callV C (y := yX8_atEnd) 8 0 0 0 (RX8, TX8, 3) (by decide) rfl rfl ⟨Nat.le_refl _, Nat.le_refl _⟩ (c_X8_atEnd l D ids) kw_395 kw_402 kw_393 kw_394 kw_2 hy_X8_atEnd ⟨Nat.le_of_ble_eq_true rfl, Nat.le_of_ble_eq_true rfl⟩ dX6_read_46, List.forall_mem_cons.mpr ⟨so_if_ne C (by decide) dX6_read_49, List.forall_mem_cons.mpr ⟨so_aload_n C 1 rfl dX6_read_52, List.forall_mem_cons.mpr ⟨so_bipush C 109 rfl dX6_read_53, List.forall_mem_cons.mpr ⟨so_callV C (y := yX8_take) 8 1 0 0 (RX8, TX8, 3) (by decide) rfl rfl ⟨Nat.le_refl _, Nat.le_refl _⟩ (c_X8_take l D ids) kw_374 kw_401 kw_372 kw_373 kw_2 hy_X8_take ⟨Nat.le_of_ble_eq_true rfl, Nat.le_of_ble_eq_true rfl⟩ dX6_read_55, List.forall_mem_cons.mpr ⟨so_if_eq C (by decide) dX6_read_58, List.forall_mem_cons.mpr ⟨so_aload_n C 1 rfl dX6_read_61, List.forall_mem_cons.mpr ⟨so_iconst C 1 rfl dX6_read_62, List.forall_mem_cons.mpr ⟨so_iconst C 2 rfl dX6_read_63, List.forall_mem_cons.mpr ⟨so_callV C (y := yX8_number) 8 2 0 0 (RX8, TX8, 3) (by decide) rfl rfl ⟨Nat.le_refl _, Nat.le_refl _⟩ (c_X8_number l D ids) kw_382 kw_400 kw_380 kw_381 kw_2 hy_X8_number ⟨Nat.le_of_ble_eq_true rfl, Nat.le_of_ble_eq_true rfl⟩ dX6_read_64, List.forall_mem_cons.mpr ⟨so_istore_n C 2 rfl (by decide) dX6_read_67, List.forall_mem_cons.mpr ⟨so_iload_n C 2 rfl dX6_read_68, List.forall_mem_cons.mpr ⟨so_if_le C (by decide) dX6_read_69, List.forall_mem_cons.mpr ⟨so_iconst C 1 rfl dX6_read_72, List.forall_mem_cons.mpr ⟨so_goto C (by decide) dX6_read_73, List.forall_mem_cons.mpr ⟨so_iconst C 0 rfl dX6_read_76, List.forall_mem_cons.mpr ⟨so_istore C 4 (by decide) dX6_read_77, List.forall_mem_cons.mpr ⟨so_goto C (by decide) dX6_read_79, List.forall_mem_cons.mpr ⟨so_aload_n C 0 rfl dX6_read_82, List.forall_mem_cons.mpr ⟨so_getI C [6] 0 (fd_RX6_27_6 C) (by decide) dX6_read_83, fun _ h => absurd h List.not_mem_nil⟩⟩⟩⟩⟩⟩⟩⟩⟩⟩⟩⟩⟩⟩⟩⟩⟩⟩⟩⟩⟩⟩⟩⟩
set_option maxRecDepth 20000 in
theorem sn_X6_read_2 {p : Program} {l : Launch} {e : Env} {s : State} {m : MethodId} {args : Array Value} {below : List Frame} {meth : Method} {c : Code} {D : va_G} {ids : Nat → ClassId} {b : Nat} {Q : oQ} (C : oCx p s m args c cX6_read 5 (yX6_read).cls D ids b) (hr : meth.sig.returnType = (some .boolean)) (hlk : meth.locks = false) (hnm : meth.name = (yX6_read).name) : ∀ q ∈ tl_X6_read_2, oSn (oW p l e (oRm 3 68 0 0) s m args below meth c 5 D ids b (oMQ D ids b below Q args s 0 0)) Q q.1 q.2 := List.forall_mem_cons.mpr ⟨so_bipush C 10 rfl dX6_read_86, List.forall_mem_cons.mpr ⟨so_ic_ge C (by decide) dX6_read_88, List.forall_mem_cons.mpr ⟨so_aload_n C 0 rfl dX6_read_91, List.forall_mem_cons.mpr ⟨so_getI C [6] 1 (fd_RX6_30_6 C) (by decide) dX6_read_92, List.forall_mem_cons.mpr ⟨so_iconst C 2 rfl dX6_read_95, List.forall_mem_cons.mpr ⟨so_ic_ge C (by decide) dX6_read_96, List.forall_mem_cons.mpr ⟨so_aload_n C 1 rfl dX6_read_99, List.forall_mem_cons.mpr ⟨so_bipush C 99 rfl dX6_read_100, List.forall_mem_cons.mpr ⟨so_callV C (y := yX8_take) 8 1 0 0 (RX8, TX8, 3) (by decide) rfl rfl ⟨Nat.le_refl _, Nat.le_refl _⟩ (c_X8_take l D ids) kw_374 kw_401 kw_372 kw_373 kw_2 hy_X8_take ⟨Nat.le_of_ble_eq_true rfl, Nat.le_of_ble_eq_true rfl⟩ dX6_read_102, List.forall_mem_cons.mpr ⟨so_if_eq C (by decide) dX6_read_105, List.forall_mem_cons.mpr ⟨so_aload_n C 0 rfl dX6_read_108, List.forall_mem_cons.mpr ⟨so_aload_n C 1 rfl dX6_read_109, List.forall_mem_cons.mpr ⟨so_iload_n C 2 rfl dX6_read_110, List.forall_mem_cons.mpr ⟨so_callV C (y := yX6_readTenths) 6 2 0 0 (RX6, TX6, 5) (by decide) rfl rfl ⟨Nat.le_refl _, Nat.le_refl _⟩ (c_X6_readTenths l D ids) kw_406 kw_403 kw_405 kp_3 kw_4 hy_X6_readTenths ⟨Nat.le_of_ble_eq_true rfl, Nat.le_of_ble_eq_true rfl⟩ dX6_read_111, List.forall_mem_cons.mpr ⟨so_istore C 4 (by decide) dX6_read_114, List.forall_mem_cons.mpr ⟨so_goto C (by decide) dX6_read_116, List.forall_mem_cons.mpr ⟨so_aload_n C 0 rfl dX6_read_119, List.forall_mem_cons.mpr ⟨so_aload_n C 1 rfl dX6_read_120, List.forall_mem_cons.mpr ⟨so_iload_n C 2 rfl dX6_read_121, List.forall_mem_cons.mpr ⟨so_callV C (y := yX6_readSteps) 6 2 0 0 (RX6, TX6, 5) (by decide) rfl rfl ⟨Nat.le_refl _, Nat.le_refl _⟩ (c_X6_readSteps l D ids) kw_415 kw_412 kw_414 kp_5 kw_4 hy_X6_readSteps ⟨Nat.le_of_ble_eq_true rfl, Nat.le_of_ble_eq_true rfl⟩ dX6_read_122, List.forall_mem_cons.mpr ⟨so_istore C 4 (by decide) dX6_read_125, List.forall_mem_cons.mpr ⟨so_iload C 4 dX6_read_127, List.forall_mem_cons.mpr ⟨so_if_ne C (by decide) dX6_read_129, List.forall_mem_cons.mpr ⟨so_iconst C 0 rfl dX6_read_132, fun _ h => absurd h List.not_mem_nil⟩⟩⟩⟩⟩⟩⟩⟩⟩⟩⟩⟩⟩⟩⟩⟩⟩⟩⟩⟩⟩⟩⟩⟩
set_option maxRecDepth 20000 in
theorem sn_X6_read_3 {p : Program} {l : Launch} {e : Env} {s : State} {m : MethodId} {args : Array Value} {below : List Frame} {meth : Method} {c : Code} {D : va_G} {ids : Nat → ClassId} {b : Nat} {Q : oQ} (C : oCx p s m args c cX6_read 5 (yX6_read).cls D ids b) (hr : meth.sig.returnType = (some .boolean)) (hlk : meth.locks = false) (hnm : meth.name = (yX6_read).name) : ∀ q ∈ tl_X6_read_3, oSn (oW p l e (oRm 3 68 0 0) s m args below meth c 5 D ids b (oMQ D ids b below Q args s 0 0)) Q q.1 q.2 := List.forall_mem_cons.mpr ⟨so_retz C 0 0 hr hlk dX6_read_133, List.forall_mem_cons.mpr ⟨so_iinc C 3 1 (by decide) dX6_read_134, List.forall_mem_cons.mpr ⟨so_goto C (by decide) dX6_read_137, List.forall_mem_cons.mpr ⟨so_aload_n C 0 rfl dX6_read_140, List.forall_mem_cons.mpr ⟨so_getI C [6] 0 (fd_RX6_27_6 C) (by decide) dX6_read_141, List.forall_mem_cons.mpr ⟨so_if_le C (by decide) dX6_read_144, List.forall_mem_cons.mpr ⟨so_iconst C 1 rfl dX6_read_147, List.forall_mem_cons.mpr ⟨so_goto C (by decide) dX6_read_148, List.forall_mem_cons.mpr ⟨so_iconst C 0 rfl dX6_read_151, List.forall_mem_cons.mpr ⟨so_retz C 0 0 hr hlk dX6_read_152, fun _ h => absurd h List.not_mem_nil⟩⟩⟩⟩⟩⟩⟩⟩⟩⟩
set_option maxRecDepth 20000 in
theorem c_X6_read (l : Launch) (D : va_G) (ids : Nat → ClassId) : oMT l D ids yX6_read cX6_read 5 (some .boolean) 3 68 0 0 T_X6_read := oMet l D ids tb_X6_read (by decide) (fun p e s m args below meth c b Q C hr hlk hnm => oTab_all (tl_X6_read_0 ++ (tl_X6_read_1 ++ (tl_X6_read_2 ++ (tl_X6_read_3)))) (List.forall_mem_append.mpr ⟨sn_X6_read_0 C hr hlk hnm, List.forall_mem_append.mpr ⟨sn_X6_read_1 C hr hlk hnm, List.forall_mem_append.mpr ⟨sn_X6_read_2 C hr hlk hnm, sn_X6_read_3 C hr hlk hnm⟩⟩⟩))
theorem dX4_allFlour_0 : decode cX4_allFlour 0 = .ok (.iconst 0, 1) := by decide +kernel
theorem dX4_allFlour_1 : decode cX4_allFlour 1 = .ok (.istore_n 1, 1) := by decide +kernel
theorem dX4_allFlour_2 : decode cX4_allFlour 2 = .ok (.iconst 0, 1) := by decide +kernel
theorem dX4_allFlour_3 : decode cX4_allFlour 3 = .ok (.istore_n 2, 1) := by decide +kernel
theorem dX4_allFlour_4 : decode cX4_allFlour 4 = .ok (.iload_n 2, 1) := by decide +kernel
theorem dX4_allFlour_5 : decode cX4_allFlour 5 = .ok (.aload_n 0, 1) := by decide +kernel
theorem dX4_allFlour_6 : decode cX4_allFlour 6 = .ok (.getfield 18, 3) := by decide +kernel
theorem dX4_allFlour_9 : decode cX4_allFlour 9 = .ok (.if_icmp .ge 18, 3) := by decide +kernel
theorem dX4_allFlour_12 : decode cX4_allFlour 12 = .ok (.iload_n 1, 1) := by decide +kernel
theorem dX4_allFlour_13 : decode cX4_allFlour 13 = .ok (.aload_n 0, 1) := by decide +kernel
theorem dX4_allFlour_14 : decode cX4_allFlour 14 = .ok (.getfield 9, 3) := by decide +kernel
theorem dX4_allFlour_17 : decode cX4_allFlour 17 = .ok (.iload_n 2, 1) := by decide +kernel
theorem dX4_allFlour_18 : decode cX4_allFlour 18 = .ok (.iaload, 1) := by decide +kernel
theorem dX4_allFlour_19 : decode cX4_allFlour 19 = .ok (.iadd, 1) := by decide +kernel
theorem dX4_allFlour_20 : decode cX4_allFlour 20 = .ok (.istore_n 1, 1) := by decide +kernel
theorem dX4_allFlour_21 : decode cX4_allFlour 21 = .ok (.iinc 2 1, 3) := by decide +kernel
theorem dX4_allFlour_24 : decode cX4_allFlour 24 = .ok (.goto (-20), 3) := by decide +kernel
theorem dX4_allFlour_27 : decode cX4_allFlour 27 = .ok (.iload_n 1, 1) := by decide +kernel
theorem dX4_allFlour_28 : decode cX4_allFlour 28 = .ok (.ireturn, 1) := by decide +kernel
abbrev tl_X4_allFlour_0 : List (Nat × oOp) := [(0, o_push (vI 0) 1), (1, o_ist 1 2), (2, o_push (vI 0) 3), (3, o_ist 2 4), (4, o_ild 2 5), (5, o_ald 0 6), (6, o_getI [4] 0 9), (9, o_ic pGe 27 12), (12, o_ild 1 13), (13, o_ald 0 14), (14, o_getR [4] 1 17), (17, o_ild 2 18), (18, o_xald 13 19), (19, o_ib fAdd 20), (20, o_ist 1 21), (21, o_inc 2 1 24), (24, o_go 4), (27, o_ild 1 28), (28, o_reti 0 0)]
set_option maxRecDepth 20000 in
def tb_X4_allFlour : Nat → oOp := oTab [(0, o_push (vI 0) 1), (1, o_ist 1 2), (2, o_push (vI 0) 3), (3, o_ist 2 4), (4, o_ild 2 5), (5, o_ald 0 6), (6, o_getI [4] 0 9), (9, o_ic pGe 27 12), (12, o_ild 1 13), (13, o_ald 0 14), (14, o_getR [4] 1 17), (17, o_ild 2 18), (18, o_xald 13 19), (19, o_ib fAdd 20), (20, o_ist 1 21), (21, o_inc 2 1 24), (24, o_go 4), (27, o_ild 1 28), (28, o_reti 0 0)]
def T_X4_allFlour : List oA → oM → oQ → Prop := oT tb_X4_allFlour 3
set_option maxRecDepth 20000 in
theorem sn_X4_allFlour_0 {p : Program} {l : Launch} {e : Env} {s : State} {m : MethodId} {args : Array Value} {below : List Frame} {meth : Method} {c : Code} {D : va_G} {ids : Nat → ClassId} {b : Nat} {Q : oQ} (C : oCx p s m args c cX4_allFlour 3 (yX4_allFlour).cls D ids b) (hr : meth.sig.returnType = (some .int)) (hlk : meth.locks = false) (hnm : meth.name = (yX4_allFlour).name) : ∀ q ∈ tl_X4_allFlour_0, oSn (oW p l e (oRm 0 0 0 0) s m args below meth c 3 D ids b (oMQ D ids b below Q args s 0 0)) Q q.1 q.2 := List.forall_mem_cons.mpr ⟨so_iconst C 0 rfl dX4_allFlour_0, List.forall_mem_cons.mpr ⟨so_istore_n C 1 rfl (by decide) dX4_allFlour_1, List.forall_mem_cons.mpr ⟨so_iconst C 0 rfl dX4_allFlour_2, List.forall_mem_cons.mpr ⟨so_istore_n C 2 rfl (by decide) dX4_allFlour_3, List.forall_mem_cons.mpr ⟨so_iload_n C 2 rfl dX4_allFlour_4, List.forall_mem_cons.mpr ⟨so_aload_n C 0 rfl dX4_allFlour_5, List.forall_mem_cons.mpr ⟨so_getI C [4] 0 (fd_RX4_18_4 C) (by decide) dX4_allFlour_6, List.forall_mem_cons.mpr ⟨so_ic_ge C (by decide) dX4_allFlour_9, List.forall_mem_cons.mpr ⟨so_iload_n C 1 rfl dX4_allFlour_12, List.forall_mem_cons.mpr ⟨so_aload_n C 0 rfl dX4_allFlour_13, List.forall_mem_cons.mpr ⟨so_getR C [4] 1 (fd_RX4_9_4 C) (ft_4_1) dX4_allFlour_14, List.forall_mem_cons.mpr ⟨so_iload_n C 2 rfl dX4_allFlour_17, List.forall_mem_cons.mpr ⟨so_iald C dX4_allFlour_18, List.forall_mem_cons.mpr ⟨so_iadd C dX4_allFlour_19, List.forall_mem_cons.mpr ⟨so_istore_n C 1 rfl (by decide) dX4_allFlour_20, List.forall_mem_cons.mpr ⟨so_iinc C 2 1 (by decide) dX4_allFlour_21, List.forall_mem_cons.mpr ⟨so_goto C (by decide) dX4_allFlour_24, List.forall_mem_cons.mpr ⟨so_iload_n C 1 rfl dX4_allFlour_27, List.forall_mem_cons.mpr ⟨so_reti C 0 0 hr hlk dX4_allFlour_28, fun _ h => absurd h List.not_mem_nil⟩⟩⟩⟩⟩⟩⟩⟩⟩⟩⟩⟩⟩⟩⟩⟩⟩⟩⟩
set_option maxRecDepth 20000 in
theorem c_X4_allFlour (l : Launch) (D : va_G) (ids : Nat → ClassId) : oMT l D ids yX4_allFlour cX4_allFlour 3 (some .int) 0 0 0 0 T_X4_allFlour := oMet l D ids tb_X4_allFlour (by decide) (fun p e s m args below meth c b Q C hr hlk hnm => oTab_all (tl_X4_allFlour_0) (sn_X4_allFlour_0 C hr hlk hnm))
theorem dX8_init_0 : decode cX8_init 0 = .ok (.aload_n 0, 1) := by decide +kernel
theorem dX8_init_1 : decode cX8_init 1 = .ok (.invokespecial 3, 3) := by decide +kernel
theorem dX8_init_4 : decode cX8_init 4 = .ok (.aload_n 0, 1) := by decide +kernel
theorem dX8_init_5 : decode cX8_init 5 = .ok (.bipush 60, 2) := by decide +kernel
theorem dX8_init_7 : decode cX8_init 7 = .ok (.newarray .int, 2) := by decide +kernel
theorem dX8_init_9 : decode cX8_init 9 = .ok (.putfield 11, 3) := by decide +kernel
theorem dX8_init_12 : decode cX8_init 12 = .ok (.return_, 1) := by decide +kernel
abbrev tl_X8_init_0 : List (Nat × oOp) := [(0, o_ald 0 1), (1, o_obj 4), (4, o_ald 0 5), (5, o_push (vI 60) 7), (7, o_newa 13 1 60 9), (9, o_putR [8] 0 12), (12, o_ret0 1 60)]
set_option maxRecDepth 20000 in
def tb_X8_init : Nat → oOp := oTab [(0, o_ald 0 1), (1, o_obj 4), (4, o_ald 0 5), (5, o_push (vI 60) 7), (7, o_newa 13 1 60 9), (9, o_putR [8] 0 12), (12, o_ret0 1 60)]
def T_X8_init : List oA → oM → oQ → Prop := oT tb_X8_init 1
set_option maxRecDepth 20000 in
theorem sn_X8_init_0 {p : Program} {l : Launch} {e : Env} {s : State} {m : MethodId} {args : Array Value} {below : List Frame} {meth : Method} {c : Code} {D : va_G} {ids : Nat → ClassId} {b : Nat} {Q : oQ} (C : oCx p s m args c cX8_init 1 (yX8_init).cls D ids b) (hr : meth.sig.returnType = none) (hlk : meth.locks = false) (hnm : meth.name = (yX8_init).name) : ∀ q ∈ tl_X8_init_0, oSn (oW p l e (oRm 1 21 1 60) s m args below meth c 1 D ids b (oMQ D ids b below Q args s 1 60)) Q q.1 q.2 := List.forall_mem_cons.mpr ⟨so_aload_n C 0 rfl dX8_init_0, List.forall_mem_cons.mpr ⟨so_obj C kw_30 kw_23 kw_24 (by decide) (by decide) dX8_init_1, List.forall_mem_cons.mpr ⟨so_aload_n C 0 rfl dX8_init_4, List.forall_mem_cons.mpr ⟨so_bipush C 60 rfl dX8_init_5, List.forall_mem_cons.mpr ⟨so_newa C 13 0 .int rfl 1 60 ⟨Nat.le_refl _, Nat.le_refl _⟩ (by decide) (by decide) rfl rfl (by intro n h; cases h) (by decide) kw_47 dX8_init_7, List.forall_mem_cons.mpr ⟨so_putFR C hnm [8] 0 (fd_RX8_11_8 C) (ff_8_0) ft_8_0 dX8_init_9, List.forall_mem_cons.mpr ⟨so_ret0 C 1 60 hr hlk dX8_init_12, fun _ h => absurd h List.not_mem_nil⟩⟩⟩⟩⟩⟩⟩
set_option maxRecDepth 20000 in
theorem c_X8_init (l : Launch) (D : va_G) (ids : Nat → ClassId) : oMT l D ids yX8_init cX8_init 1 none 1 21 1 60 T_X8_init := oMet l D ids tb_X8_init (by decide) (fun p e s m args below meth c b Q C hr hlk hnm => oTab_all (tl_X8_init_0) (sn_X8_init_0 C hr hlk hnm))
theorem dX4_init_0 : decode cX4_init 0 = .ok (.aload_n 0, 1) := by decide +kernel
theorem dX4_init_1 : decode cX4_init 1 = .ok (.invokespecial 3, 3) := by decide +kernel
theorem dX4_init_4 : decode cX4_init 4 = .ok (.aload_n 0, 1) := by decide +kernel
theorem dX4_init_5 : decode cX4_init 5 = .ok (.bipush 8, 2) := by decide +kernel
theorem dX4_init_7 : decode cX4_init 7 = .ok (.newarray .int, 2) := by decide +kernel
theorem dX4_init_9 : decode cX4_init 9 = .ok (.putfield 9, 3) := by decide +kernel
theorem dX4_init_12 : decode cX4_init 12 = .ok (.aload_n 0, 1) := by decide +kernel
theorem dX4_init_13 : decode cX4_init 13 = .ok (.bipush 8, 2) := by decide +kernel
theorem dX4_init_15 : decode cX4_init 15 = .ok (.newarray .int, 2) := by decide +kernel
theorem dX4_init_17 : decode cX4_init 17 = .ok (.putfield 15, 3) := by decide +kernel
theorem dX4_init_20 : decode cX4_init 20 = .ok (.return_, 1) := by decide +kernel
abbrev tl_X4_init_0 : List (Nat × oOp) := [(0, o_ald 0 1), (1, o_obj 4), (4, o_ald 0 5), (5, o_push (vI 8) 7), (7, o_newa 13 2 16 9), (9, o_putR [4] 1 12), (12, o_ald 0 13), (13, o_push (vI 8) 15), (15, o_newa 13 2 16 17), (17, o_putR [4] 2 20), (20, o_ret0 2 16)]
set_option maxRecDepth 20000 in
def tb_X4_init : Nat → oOp := oTab [(0, o_ald 0 1), (1, o_obj 4), (4, o_ald 0 5), (5, o_push (vI 8) 7), (7, o_newa 13 2 16 9), (9, o_putR [4] 1 12), (12, o_ald 0 13), (13, o_push (vI 8) 15), (15, o_newa 13 2 16 17), (17, o_putR [4] 2 20), (20, o_ret0 2 16)]
def T_X4_init : List oA → oM → oQ → Prop := oT tb_X4_init 1
set_option maxRecDepth 20000 in
theorem sn_X4_init_0 {p : Program} {l : Launch} {e : Env} {s : State} {m : MethodId} {args : Array Value} {below : List Frame} {meth : Method} {c : Code} {D : va_G} {ids : Nat → ClassId} {b : Nat} {Q : oQ} (C : oCx p s m args c cX4_init 1 (yX4_init).cls D ids b) (hr : meth.sig.returnType = none) (hlk : meth.locks = false) (hnm : meth.name = (yX4_init).name) : ∀ q ∈ tl_X4_init_0, oSn (oW p l e (oRm 1 21 2 16) s m args below meth c 1 D ids b (oMQ D ids b below Q args s 2 16)) Q q.1 q.2 := List.forall_mem_cons.mpr ⟨so_aload_n C 0 rfl dX4_init_0, List.forall_mem_cons.mpr ⟨so_obj C kw_53 kw_23 kw_24 (by decide) (by decide) dX4_init_1, List.forall_mem_cons.mpr ⟨so_aload_n C 0 rfl dX4_init_4, List.forall_mem_cons.mpr ⟨so_bipush C 8 rfl dX4_init_5, List.forall_mem_cons.mpr ⟨so_newa C 13 0 .int rfl 2 16 ⟨Nat.le_refl _, Nat.le_refl _⟩ (by decide) (by decide) rfl rfl (by intro n h; cases h) (by decide) kw_47 dX4_init_7, List.forall_mem_cons.mpr ⟨so_putFR C hnm [4] 1 (fd_RX4_9_4 C) (ff_4_1) ft_4_1 dX4_init_9, List.forall_mem_cons.mpr ⟨so_aload_n C 0 rfl dX4_init_12, List.forall_mem_cons.mpr ⟨so_bipush C 8 rfl dX4_init_13, List.forall_mem_cons.mpr ⟨so_newa C 13 0 .int rfl 2 16 ⟨Nat.le_refl _, Nat.le_refl _⟩ (by decide) (by decide) rfl rfl (by intro n h; cases h) (by decide) kw_47 dX4_init_15, List.forall_mem_cons.mpr ⟨so_putFR C hnm [4] 2 (fd_RX4_15_4 C) (ff_4_2) ft_4_2 dX4_init_17, List.forall_mem_cons.mpr ⟨so_ret0 C 2 16 hr hlk dX4_init_20, fun _ h => absurd h List.not_mem_nil⟩⟩⟩⟩⟩⟩⟩⟩⟩⟩⟩
set_option maxRecDepth 20000 in
theorem c_X4_init (l : Launch) (D : va_G) (ids : Nat → ClassId) : oMT l D ids yX4_init cX4_init 1 none 1 21 2 16 T_X4_init := oMet l D ids tb_X4_init (by decide) (fun p e s m args below meth c b Q C hr hlk hnm => oTab_all (tl_X4_init_0) (sn_X4_init_0 C hr hlk hnm))
theorem dX6_init_0 : decode cX6_init 0 = .ok (.aload_n 0, 1) := by decide +kernel
theorem dX6_init_1 : decode cX6_init 1 = .ok (.invokespecial 3, 3) := by decide +kernel
theorem dX6_init_4 : decode cX6_init 4 = .ok (.aload_n 0, 1) := by decide +kernel
theorem dX6_init_5 : decode cX6_init 5 = .ok (.bipush 10, 2) := by decide +kernel
theorem dX6_init_7 : decode cX6_init 7 = .ok (.newarray .int, 2) := by decide +kernel
theorem dX6_init_9 : decode cX6_init 9 = .ok (.putfield 9, 3) := by decide +kernel
theorem dX6_init_12 : decode cX6_init 12 = .ok (.aload_n 0, 1) := by decide +kernel
theorem dX6_init_13 : decode cX6_init 13 = .ok (.bipush 10, 2) := by decide +kernel
theorem dX6_init_15 : decode cX6_init 15 = .ok (.newarray .int, 2) := by decide +kernel
theorem dX6_init_17 : decode cX6_init 17 = .ok (.putfield 15, 3) := by decide +kernel
theorem dX6_init_20 : decode cX6_init 20 = .ok (.aload_n 0, 1) := by decide +kernel
theorem dX6_init_21 : decode cX6_init 21 = .ok (.iconst 2, 1) := by decide +kernel
theorem dX6_init_22 : decode cX6_init 22 = .ok (.newarray .int, 2) := by decide +kernel
theorem dX6_init_24 : decode cX6_init 24 = .ok (.putfield 18, 3) := by decide +kernel
theorem dX6_init_27 : decode cX6_init 27 = .ok (.return_, 1) := by decide +kernel
abbrev tl_X6_init_0 : List (Nat × oOp) := [(0, o_ald 0 1), (1, o_obj 4), (4, o_ald 0 5), (5, o_push (vI 10) 7), (7, o_newa 13 3 22 9), (9, o_putR [6] 2 12), (12, o_ald 0 13), (13, o_push (vI 10) 15), (15, o_newa 13 3 22 17), (17, o_putR [6] 3 20), (20, o_ald 0 21), (21, o_push (vI 2) 22), (22, o_newa 13 3 22 24), (24, o_putR [6] 4 27), (27, o_ret0 3 22)]
set_option maxRecDepth 20000 in
def tb_X6_init : Nat → oOp := oTab [(0, o_ald 0 1), (1, o_obj 4), (4, o_ald 0 5), (5, o_push (vI 10) 7), (7, o_newa 13 3 22 9), (9, o_putR [6] 2 12), (12, o_ald 0 13), (13, o_push (vI 10) 15), (15, o_newa 13 3 22 17), (17, o_putR [6] 3 20), (20, o_ald 0 21), (21, o_push (vI 2) 22), (22, o_newa 13 3 22 24), (24, o_putR [6] 4 27), (27, o_ret0 3 22)]
def T_X6_init : List oA → oM → oQ → Prop := oT tb_X6_init 1
set_option maxRecDepth 20000 in
theorem sn_X6_init_0 {p : Program} {l : Launch} {e : Env} {s : State} {m : MethodId} {args : Array Value} {below : List Frame} {meth : Method} {c : Code} {D : va_G} {ids : Nat → ClassId} {b : Nat} {Q : oQ} (C : oCx p s m args c cX6_init 1 (yX6_init).cls D ids b) (hr : meth.sig.returnType = none) (hlk : meth.locks = false) (hnm : meth.name = (yX6_init).name) : ∀ q ∈ tl_X6_init_0, oSn (oW p l e (oRm 1 21 3 22) s m args below meth c 1 D ids b (oMQ D ids b below Q args s 3 22)) Q q.1 q.2 := List.forall_mem_cons.mpr ⟨so_aload_n C 0 rfl dX6_init_0, List.forall_mem_cons.mpr ⟨so_obj C kw_100 kw_23 kw_24 (by decide) (by decide) dX6_init_1, List.forall_mem_cons.mpr ⟨so_aload_n C 0 rfl dX6_init_4, List.forall_mem_cons.mpr ⟨so_bipush C 10 rfl dX6_init_5, List.forall_mem_cons.mpr ⟨so_newa C 13 0 .int rfl 3 22 ⟨Nat.le_refl _, Nat.le_refl _⟩ (by decide) (by decide) rfl rfl (by intro n h; cases h) (by decide) kw_47 dX6_init_7, List.forall_mem_cons.mpr ⟨so_putFR C hnm [6] 2 (fd_RX6_9_6 C) (ff_6_2) ft_6_2 dX6_init_9, List.forall_mem_cons.mpr ⟨so_aload_n C 0 rfl dX6_init_12, List.forall_mem_cons.mpr ⟨so_bipush C 10 rfl dX6_init_13, List.forall_mem_cons.mpr ⟨so_newa C 13 0 .int rfl 3 22 ⟨Nat.le_refl _, Nat.le_refl _⟩ (by decide) (by decide) rfl rfl (by intro n h; cases h) (by decide) kw_47 dX6_init_15, List.forall_mem_cons.mpr ⟨so_putFR C hnm [6] 3 (fd_RX6_15_6 C) (ff_6_3) ft_6_3 dX6_init_17, List.forall_mem_cons.mpr ⟨so_aload_n C 0 rfl dX6_init_20, List.forall_mem_cons.mpr ⟨so_iconst C 2 rfl dX6_init_21, List.forall_mem_cons.mpr ⟨so_newa C 13 0 .int rfl 3 22 ⟨Nat.le_refl _, Nat.le_refl _⟩ (by decide) (by decide) rfl rfl (by intro n h; cases h) (by decide) kw_47 dX6_init_22, List.forall_mem_cons.mpr ⟨so_putFR C hnm [6] 4 (fd_RX6_18_6 C) (ff_6_4) ft_6_4 dX6_init_24, List.forall_mem_cons.mpr ⟨so_ret0 C 3 22 hr hlk dX6_init_27, fun _ h => absurd h List.not_mem_nil⟩⟩⟩⟩⟩⟩⟩⟩⟩⟩⟩⟩⟩⟩⟩
set_option maxRecDepth 20000 in
theorem c_X6_init (l : Launch) (D : va_G) (ids : Nat → ClassId) : oMT l D ids yX6_init cX6_init 1 none 1 21 3 22 T_X6_init := oMet l D ids tb_X6_init (by decide) (fun p e s m args below meth c b Q C hr hlk hnm => oTab_all (tl_X6_init_0) (sn_X6_init_0 C hr hlk hnm))
theorem dX9_init_0 : decode cX9_init 0 = .ok (.aload_n 0, 1) := by decide +kernel
theorem dX9_init_1 : decode cX9_init 1 = .ok (.invokespecial 3, 3) := by decide +kernel
theorem dX9_init_4 : decode cX9_init 4 = .ok (.aload_n 0, 1) := by decide +kernel
theorem dX9_init_5 : decode cX9_init 5 = .ok (.bipush 30, 2) := by decide +kernel
theorem dX9_init_7 : decode cX9_init 7 = .ok (.newarray .int, 2) := by decide +kernel
theorem dX9_init_9 : decode cX9_init 9 = .ok (.putfield 11, 3) := by decide +kernel
theorem dX9_init_12 : decode cX9_init 12 = .ok (.aload_n 0, 1) := by decide +kernel
theorem dX9_init_13 : decode cX9_init 13 = .ok (.bipush 30, 2) := by decide +kernel
theorem dX9_init_15 : decode cX9_init 15 = .ok (.newarray .int, 2) := by decide +kernel
theorem dX9_init_17 : decode cX9_init 17 = .ok (.putfield 15, 3) := by decide +kernel
theorem dX9_init_20 : decode cX9_init 20 = .ok (.aload_n 0, 1) := by decide +kernel
theorem dX9_init_21 : decode cX9_init 21 = .ok (.bipush 30, 2) := by decide +kernel
theorem dX9_init_23 : decode cX9_init 23 = .ok (.newarray .int, 2) := by decide +kernel
theorem dX9_init_25 : decode cX9_init 25 = .ok (.putfield 18, 3) := by decide +kernel
theorem dX9_init_28 : decode cX9_init 28 = .ok (.return_, 1) := by decide +kernel
abbrev tl_X9_init_0 : List (Nat × oOp) := [(0, o_ald 0 1), (1, o_obj 4), (4, o_ald 0 5), (5, o_push (vI 30) 7), (7, o_newa 13 3 90 9), (9, o_putR [9] 0 12), (12, o_ald 0 13), (13, o_push (vI 30) 15), (15, o_newa 13 3 90 17), (17, o_putR [9] 1 20), (20, o_ald 0 21), (21, o_push (vI 30) 23), (23, o_newa 13 3 90 25), (25, o_putR [9] 2 28), (28, o_ret0 3 90)]
set_option maxRecDepth 20000 in
def tb_X9_init : Nat → oOp := oTab [(0, o_ald 0 1), (1, o_obj 4), (4, o_ald 0 5), (5, o_push (vI 30) 7), (7, o_newa 13 3 90 9), (9, o_putR [9] 0 12), (12, o_ald 0 13), (13, o_push (vI 30) 15), (15, o_newa 13 3 90 17), (17, o_putR [9] 1 20), (20, o_ald 0 21), (21, o_push (vI 30) 23), (23, o_newa 13 3 90 25), (25, o_putR [9] 2 28), (28, o_ret0 3 90)]
def T_X9_init : List oA → oM → oQ → Prop := oT tb_X9_init 1
set_option maxRecDepth 20000 in
theorem sn_X9_init_0 {p : Program} {l : Launch} {e : Env} {s : State} {m : MethodId} {args : Array Value} {below : List Frame} {meth : Method} {c : Code} {D : va_G} {ids : Nat → ClassId} {b : Nat} {Q : oQ} (C : oCx p s m args c cX9_init 1 (yX9_init).cls D ids b) (hr : meth.sig.returnType = none) (hlk : meth.locks = false) (hnm : meth.name = (yX9_init).name) : ∀ q ∈ tl_X9_init_0, oSn (oW p l e (oRm 1 21 3 90) s m args below meth c 1 D ids b (oMQ D ids b below Q args s 3 90)) Q q.1 q.2 := List.forall_mem_cons.mpr ⟨so_aload_n C 0 rfl dX9_init_0, List.forall_mem_cons.mpr ⟨so_obj C kw_173 kw_23 kw_24 (by decide) (by decide) dX9_init_1, List.forall_mem_cons.mpr ⟨so_aload_n C 0 rfl dX9_init_4, List.forall_mem_cons.mpr ⟨so_bipush C 30 rfl dX9_init_5, List.forall_mem_cons.mpr ⟨so_newa C 13 0 .int rfl 3 90 ⟨Nat.le_refl _, Nat.le_refl _⟩ (by decide) (by decide) rfl rfl (by intro n h; cases h) (by decide) kw_47 dX9_init_7, List.forall_mem_cons.mpr ⟨so_putFR C hnm [9] 0 (fd_RX9_11_9 C) (ff_9_0) ft_9_0 dX9_init_9, List.forall_mem_cons.mpr ⟨so_aload_n C 0 rfl dX9_init_12, List.forall_mem_cons.mpr ⟨so_bipush C 30 rfl dX9_init_13, List.forall_mem_cons.mpr ⟨so_newa C 13 0 .int rfl 3 90 ⟨Nat.le_refl _, Nat.le_refl _⟩ (by decide) (by decide) rfl rfl (by intro n h; cases h) (by decide) kw_47 dX9_init_15, List.forall_mem_cons.mpr ⟨so_putFR C hnm [9] 1 (fd_RX9_15_9 C) (ff_9_1) ft_9_1 dX9_init_17, List.forall_mem_cons.mpr ⟨so_aload_n C 0 rfl dX9_init_20, List.forall_mem_cons.mpr ⟨so_bipush C 30 rfl dX9_init_21, List.forall_mem_cons.mpr ⟨so_newa C 13 0 .int rfl 3 90 ⟨Nat.le_refl _, Nat.le_refl _⟩ (by decide) (by decide) rfl rfl (by intro n h; cases h) (by decide) kw_47 dX9_init_23, List.forall_mem_cons.mpr ⟨so_putFR C hnm [9] 2 (fd_RX9_18_9 C) (ff_9_2) ft_9_2 dX9_init_25, List.forall_mem_cons.mpr ⟨so_ret0 C 3 90 hr hlk dX9_init_28, fun _ h => absurd h List.not_mem_nil⟩⟩⟩⟩⟩⟩⟩⟩⟩⟩⟩⟩⟩⟩⟩
set_option maxRecDepth 20000 in
theorem c_X9_init (l : Launch) (D : va_G) (ids : Nat → ClassId) : oMT l D ids yX9_init cX9_init 1 none 1 21 3 90 T_X9_init := oMet l D ids tb_X9_init (by decide) (fun p e s m args below meth c b Q C hr hlk hnm => oTab_all (tl_X9_init_0) (sn_X9_init_0 C hr hlk hnm))
theorem dX7_init_0 : decode cX7_init 0 = .ok (.aload_n 0, 1) := by decide +kernel
theorem dX7_init_1 : decode cX7_init 1 = .ok (.invokespecial 5, 3) := by decide +kernel
theorem dX7_init_4 : decode cX7_init 4 = .ok (.aload_n 0, 1) := by decide +kernel
theorem dX7_init_5 : decode cX7_init 5 = .ok (.sipush 2548, 3) := by decide +kernel
theorem dX7_init_8 : decode cX7_init 8 = .ok (.newarray .int, 2) := by decide +kernel
theorem dX7_init_10 : decode cX7_init 10 = .ok (.putfield 13, 3) := by decide +kernel
theorem dX7_init_13 : decode cX7_init 13 = .ok (.aload_n 0, 1) := by decide +kernel
theorem dX7_init_14 : decode cX7_init 14 = .ok (.sipush 2548, 3) := by decide +kernel
theorem dX7_init_17 : decode cX7_init 17 = .ok (.newarray .int, 2) := by decide +kernel
theorem dX7_init_19 : decode cX7_init 19 = .ok (.putfield 17, 3) := by decide +kernel
theorem dX7_init_22 : decode cX7_init 22 = .ok (.aload_n 0, 1) := by decide +kernel
theorem dX7_init_23 : decode cX7_init 23 = .ok (.sipush 2548, 3) := by decide +kernel
theorem dX7_init_26 : decode cX7_init 26 = .ok (.newarray .int, 2) := by decide +kernel
theorem dX7_init_28 : decode cX7_init 28 = .ok (.putfield 20, 3) := by decide +kernel
theorem dX7_init_31 : decode cX7_init 31 = .ok (.aload_n 0, 1) := by decide +kernel
theorem dX7_init_32 : decode cX7_init 32 = .ok (.sipush 2548, 3) := by decide +kernel
theorem dX7_init_35 : decode cX7_init 35 = .ok (.newarray .int, 2) := by decide +kernel
theorem dX7_init_37 : decode cX7_init 37 = .ok (.putfield 23, 3) := by decide +kernel
theorem dX7_init_40 : decode cX7_init 40 = .ok (.aload_n 0, 1) := by decide +kernel
theorem dX7_init_41 : decode cX7_init 41 = .ok (.sipush 324, 3) := by decide +kernel
theorem dX7_init_44 : decode cX7_init 44 = .ok (.newarray .int, 2) := by decide +kernel
theorem dX7_init_46 : decode cX7_init 46 = .ok (.putfield 26, 3) := by decide +kernel
theorem dX7_init_49 : decode cX7_init 49 = .ok (.aload_n 0, 1) := by decide +kernel
theorem dX7_init_50 : decode cX7_init 50 = .ok (.sipush 324, 3) := by decide +kernel
theorem dX7_init_53 : decode cX7_init 53 = .ok (.newarray .int, 2) := by decide +kernel
theorem dX7_init_55 : decode cX7_init 55 = .ok (.putfield 29, 3) := by decide +kernel
theorem dX7_init_58 : decode cX7_init 58 = .ok (.aload_n 0, 1) := by decide +kernel
theorem dX7_init_59 : decode cX7_init 59 = .ok (.sipush 324, 3) := by decide +kernel
theorem dX7_init_62 : decode cX7_init 62 = .ok (.newarray .int, 2) := by decide +kernel
theorem dX7_init_64 : decode cX7_init 64 = .ok (.putfield 32, 3) := by decide +kernel
theorem dX7_init_67 : decode cX7_init 67 = .ok (.aload_n 0, 1) := by decide +kernel
theorem dX7_init_68 : decode cX7_init 68 = .ok (.sipush 324, 3) := by decide +kernel
theorem dX7_init_71 : decode cX7_init 71 = .ok (.newarray .int, 2) := by decide +kernel
theorem dX7_init_73 : decode cX7_init 73 = .ok (.putfield 35, 3) := by decide +kernel
theorem dX7_init_76 : decode cX7_init 76 = .ok (.aload_n 0, 1) := by decide +kernel
theorem dX7_init_77 : decode cX7_init 77 = .ok (.sipush 324, 3) := by decide +kernel
theorem dX7_init_80 : decode cX7_init 80 = .ok (.newarray .boolean, 2) := by decide +kernel
theorem dX7_init_82 : decode cX7_init 82 = .ok (.putfield 38, 3) := by decide +kernel
theorem dX7_init_85 : decode cX7_init 85 = .ok (.return_, 1) := by decide +kernel
abbrev tl_X7_init_0 : List (Nat × oOp) := [(0, o_ald 0 1), (1, o_obj 4), (4, o_ald 0 5), (5, o_push (vI 2548) 8), (8, o_newa 13 9 11812 10), (10, o_putR [7] 0 13), (13, o_ald 0 14), (14, o_push (vI 2548) 17), (17, o_newa 13 9 11812 19), (19, o_putR [7] 1 22), (22, o_ald 0 23), (23, o_push (vI 2548) 26), (26, o_newa 13 9 11812 28), (28, o_putR [7] 2 31), (31, o_ald 0 32), (32, o_push (vI 2548) 35), (35, o_newa 13 9 11812 37), (37, o_putR [7] 3 40), (40, o_ald 0 41), (41, o_push (vI 324) 44), (44, o_newa 13 9 11812 46), (46, o_putR [7] 4 49), (49, o_ald 0 50), (50, o_push (vI 324) 53)]
abbrev tl_X7_init_1 : List (Nat × oOp) := [(53, o_newa 13 9 11812 55), (55, o_putR [7] 5 58), (58, o_ald 0 59), (59, o_push (vI 324) 62), (62, o_newa 13 9 11812 64), (64, o_putR [7] 6 67), (67, o_ald 0 68), (68, o_push (vI 324) 71), (71, o_newa 13 9 11812 73), (73, o_putR [7] 7 76), (76, o_ald 0 77), (77, o_push (vI 324) 80), (80, o_newa 15 9 11812 82), (82, o_putR [7] 8 85), (85, o_ret0 9 11812)]
set_option maxRecDepth 20000 in
def tb_X7_init : Nat → oOp := oTab [(0, o_ald 0 1), (1, o_obj 4), (4, o_ald 0 5), (5, o_push (vI 2548) 8), (8, o_newa 13 9 11812 10), (10, o_putR [7] 0 13), (13, o_ald 0 14), (14, o_push (vI 2548) 17), (17, o_newa 13 9 11812 19), (19, o_putR [7] 1 22), (22, o_ald 0 23), (23, o_push (vI 2548) 26), (26, o_newa 13 9 11812 28), (28, o_putR [7] 2 31), (31, o_ald 0 32), (32, o_push (vI 2548) 35), (35, o_newa 13 9 11812 37), (37, o_putR [7] 3 40), (40, o_ald 0 41), (41, o_push (vI 324) 44), (44, o_newa 13 9 11812 46), (46, o_putR [7] 4 49), (49, o_ald 0 50), (50, o_push (vI 324) 53), (53, o_newa 13 9 11812 55), (55, o_putR [7] 5 58), (58, o_ald 0 59), (59, o_push (vI 324) 62), (62, o_newa 13 9 11812 64), (64, o_putR [7] 6 67), (67, o_ald 0 68), (68, o_push (vI 324) 71), (71, o_newa 13 9 11812 73), (73, o_putR [7] 7 76), (76, o_ald 0 77), (77, o_push (vI 324) 80), (80, o_newa 15 9 11812 82), (82, o_putR [7] 8 85), (85, o_ret0 9 11812)]
def T_X7_init : List oA → oM → oQ → Prop := oT tb_X7_init 1
set_option maxRecDepth 20000 in
theorem sn_X7_init_0 {p : Program} {l : Launch} {e : Env} {s : State} {m : MethodId} {args : Array Value} {below : List Frame} {meth : Method} {c : Code} {D : va_G} {ids : Nat → ClassId} {b : Nat} {Q : oQ} (C : oCx p s m args c cX7_init 1 (yX7_init).cls D ids b) (hr : meth.sig.returnType = none) (hlk : meth.locks = false) (hnm : meth.name = (yX7_init).name) : ∀ q ∈ tl_X7_init_0, oSn (oW p l e (oRm 1 21 9 11812) s m args below meth c 1 D ids b (oMQ D ids b below Q args s 9 11812)) Q q.1 q.2 := List.forall_mem_cons.mpr ⟨so_aload_n C 0 rfl dX7_init_0, List.forall_mem_cons.mpr ⟨so_obj C kw_204 kw_23 kw_24 (by decide) (by decide) dX7_init_1, List.forall_mem_cons.mpr ⟨so_aload_n C 0 rfl dX7_init_4, List.forall_mem_cons.mpr ⟨so_sipush C 2548 rfl dX7_init_5, List.forall_mem_cons.mpr ⟨so_newa C 13 0 .int rfl 9 11812 ⟨Nat.le_refl _, Nat.le_refl _⟩ (by decide) (by decide) rfl rfl (by intro n h; cases h) (by decide) kw_47 dX7_init_8, List.forall_mem_cons.mpr ⟨so_putFR C hnm [7] 0 (fd_RX7_13_7 C) (ff_7_0) ft_7_0 dX7_init_10, List.forall_mem_cons.mpr ⟨so_aload_n C 0 rfl dX7_init_13, List.forall_mem_cons.mpr ⟨so_sipush C 2548 rfl dX7_init_14, List.forall_mem_cons.mpr ⟨so_newa C 13 0 .int rfl 9 11812 ⟨Nat.le_refl _, Nat.le_refl _⟩ (by decide) (by decide) rfl rfl (by intro n h; cases h) (by decide) kw_47 dX7_init_17, List.forall_mem_cons.mpr ⟨so_putFR C hnm [7] 1 (fd_RX7_17_7 C) (ff_7_1) ft_7_1 dX7_init_19, List.forall_mem_cons.mpr ⟨so_aload_n C 0 rfl dX7_init_22, List.forall_mem_cons.mpr ⟨so_sipush C 2548 rfl dX7_init_23, List.forall_mem_cons.mpr ⟨so_newa C 13 0 .int rfl 9 11812 ⟨Nat.le_refl _, Nat.le_refl _⟩ (by decide) (by decide) rfl rfl (by intro n h; cases h) (by decide) kw_47 dX7_init_26, List.forall_mem_cons.mpr ⟨so_putFR C hnm [7] 2 (fd_RX7_20_7 C) (ff_7_2) ft_7_2 dX7_init_28, List.forall_mem_cons.mpr ⟨so_aload_n C 0 rfl dX7_init_31, List.forall_mem_cons.mpr ⟨so_sipush C 2548 rfl dX7_init_32, List.forall_mem_cons.mpr ⟨so_newa C 13 0 .int rfl 9 11812 ⟨Nat.le_refl _, Nat.le_refl _⟩ (by decide) (by decide) rfl rfl (by intro n h; cases h) (by decide) kw_47 dX7_init_35, List.forall_mem_cons.mpr ⟨so_putFR C hnm [7] 3 (fd_RX7_23_7 C) (ff_7_3) ft_7_3 dX7_init_37, List.forall_mem_cons.mpr ⟨so_aload_n C 0 rfl dX7_init_40, List.forall_mem_cons.mpr ⟨so_sipush C 324 rfl dX7_init_41, List.forall_mem_cons.mpr ⟨so_newa C 13 0 .int rfl 9 11812 ⟨Nat.le_refl _, Nat.le_refl _⟩ (by decide) (by decide) rfl rfl (by intro n h; cases h) (by decide) kw_47 dX7_init_44, List.forall_mem_cons.mpr ⟨so_putFR C hnm [7] 4 (fd_RX7_26_7 C) (ff_7_4) ft_7_4 dX7_init_46, List.forall_mem_cons.mpr ⟨so_aload_n C 0 rfl dX7_init_49, List.forall_mem_cons.mpr ⟨so_sipush C 324 rfl dX7_init_50, fun _ h => absurd h List.not_mem_nil⟩⟩⟩⟩⟩⟩⟩⟩⟩⟩⟩⟩⟩⟩⟩⟩⟩⟩⟩⟩⟩⟩⟩⟩
set_option maxRecDepth 20000 in
theorem sn_X7_init_1 {p : Program} {l : Launch} {e : Env} {s : State} {m : MethodId} {args : Array Value} {below : List Frame} {meth : Method} {c : Code} {D : va_G} {ids : Nat → ClassId} {b : Nat} {Q : oQ} (C : oCx p s m args c cX7_init 1 (yX7_init).cls D ids b) (hr : meth.sig.returnType = none) (hlk : meth.locks = false) (hnm : meth.name = (yX7_init).name) : ∀ q ∈ tl_X7_init_1, oSn (oW p l e (oRm 1 21 9 11812) s m args below meth c 1 D ids b (oMQ D ids b below Q args s 9 11812)) Q q.1 q.2 := List.forall_mem_cons.mpr ⟨so_newa C 13 0 .int rfl 9 11812 ⟨Nat.le_refl _, Nat.le_refl _⟩ (by decide) (by decide) rfl rfl (by intro n h; cases h) (by decide) kw_47 dX7_init_53, List.forall_mem_cons.mpr ⟨so_putFR C hnm [7] 5 (fd_RX7_29_7 C) (ff_7_5) ft_7_5 dX7_init_55, List.forall_mem_cons.mpr ⟨so_aload_n C 0 rfl dX7_init_58, List.forall_mem_cons.mpr ⟨so_sipush C 324 rfl dX7_init_59, List.forall_mem_cons.mpr ⟨so_newa C 13 0 .int rfl 9 11812 ⟨Nat.le_refl _, Nat.le_refl _⟩ (by decide) (by decide) rfl rfl (by intro n h; cases h) (by decide) kw_47 dX7_init_62, List.forall_mem_cons.mpr ⟨so_putFR C hnm [7] 6 (fd_RX7_32_7 C) (ff_7_6) ft_7_6 dX7_init_64, List.forall_mem_cons.mpr ⟨so_aload_n C 0 rfl dX7_init_67, List.forall_mem_cons.mpr ⟨so_sipush C 324 rfl dX7_init_68, List.forall_mem_cons.mpr ⟨so_newa C 13 0 .int rfl 9 11812 ⟨Nat.le_refl _, Nat.le_refl _⟩ (by decide) (by decide) rfl rfl (by intro n h; cases h) (by decide) kw_47 dX7_init_71, List.forall_mem_cons.mpr ⟨so_putFR C hnm [7] 7 (fd_RX7_35_7 C) (ff_7_7) ft_7_7 dX7_init_73, List.forall_mem_cons.mpr ⟨so_aload_n C 0 rfl dX7_init_76, List.forall_mem_cons.mpr ⟨so_sipush C 324 rfl dX7_init_77, List.forall_mem_cons.mpr ⟨so_newa C 15 2 .boolean rfl 9 11812 ⟨Nat.le_refl _, Nat.le_refl _⟩ (by decide) (by decide) rfl rfl (by intro n h; cases h) (by decide) kw_250 dX7_init_80, List.forall_mem_cons.mpr ⟨so_putFR C hnm [7] 8 (fd_RX7_38_7 C) (ff_7_8) ft_7_8 dX7_init_82, List.forall_mem_cons.mpr ⟨so_ret0 C 9 11812 hr hlk dX7_init_85, fun _ h => absurd h List.not_mem_nil⟩⟩⟩⟩⟩⟩⟩⟩⟩⟩⟩⟩⟩⟩⟩
set_option maxRecDepth 20000 in
theorem c_X7_init (l : Launch) (D : va_G) (ids : Nat → ClassId) : oMT l D ids yX7_init cX7_init 1 none 1 21 9 11812 T_X7_init := oMet l D ids tb_X7_init (by decide) (fun p e s m args below meth c b Q C hr hlk hnm => oTab_all (tl_X7_init_0 ++ (tl_X7_init_1)) (List.forall_mem_append.mpr ⟨sn_X7_init_0 C hr hlk hnm, sn_X7_init_1 C hr hlk hnm⟩))
theorem dX2_init_0 : decode cX2_init 0 = .ok (.aload_n 0, 1) := by decide +kernel
theorem dX2_init_1 : decode cX2_init 1 = .ok (.invokespecial 5, 3) := by decide +kernel
theorem dX2_init_4 : decode cX2_init 4 = .ok (.aload_n 0, 1) := by decide +kernel
theorem dX2_init_5 : decode cX2_init 5 = .ok (.new 11, 3) := by decide +kernel
theorem dX2_init_8 : decode cX2_init 8 = .ok (.dup, 1) := by decide +kernel
theorem dX2_init_9 : decode cX2_init 9 = .ok (.invokespecial 13, 3) := by decide +kernel
theorem dX2_init_12 : decode cX2_init 12 = .ok (.putfield 14, 3) := by decide +kernel
theorem dX2_init_15 : decode cX2_init 15 = .ok (.aload_n 0, 1) := by decide +kernel
theorem dX2_init_16 : decode cX2_init 16 = .ok (.bipush 10, 2) := by decide +kernel
theorem dX2_init_18 : decode cX2_init 18 = .ok (.newarray .int, 2) := by decide +kernel
theorem dX2_init_20 : decode cX2_init 20 = .ok (.putfield 18, 3) := by decide +kernel
theorem dX2_init_23 : decode cX2_init 23 = .ok (.aload_n 0, 1) := by decide +kernel
theorem dX2_init_24 : decode cX2_init 24 = .ok (.sipush 152, 3) := by decide +kernel
theorem dX2_init_27 : decode cX2_init 27 = .ok (.newarray .int, 2) := by decide +kernel
theorem dX2_init_29 : decode cX2_init 29 = .ok (.putfield 22, 3) := by decide +kernel
theorem dX2_init_32 : decode cX2_init 32 = .ok (.aload_n 0, 1) := by decide +kernel
theorem dX2_init_33 : decode cX2_init 33 = .ok (.new 25, 3) := by decide +kernel
theorem dX2_init_36 : decode cX2_init 36 = .ok (.dup, 1) := by decide +kernel
theorem dX2_init_37 : decode cX2_init 37 = .ok (.invokespecial 27, 3) := by decide +kernel
theorem dX2_init_40 : decode cX2_init 40 = .ok (.putfield 28, 3) := by decide +kernel
theorem dX2_init_43 : decode cX2_init 43 = .ok (.return_, 1) := by decide +kernel
abbrev tl_X2_init_0 : List (Nat × oOp) := [(0, o_ald 0 1), (1, o_obj 4), (4, o_ald 0 5), (5, o_new 9 4 16 12082 8), (8, o_dup 9), (9, o_calli T_X9_init 0 3 90 16 12082 12), (12, o_putR [2] 0 15), (15, o_ald 0 16), (16, o_push (vI 10) 18), (18, o_newa 13 16 12082 20), (20, o_putR [2] 1 23), (23, o_ald 0 24), (24, o_push (vI 152) 27), (27, o_newa 13 16 12082 29), (29, o_putR [2] 2 32), (32, o_ald 0 33), (33, o_new 7 14 16 12082 36), (36, o_dup 37), (37, o_calli T_X7_init 0 9 11812 16 12082 40), (40, o_putR [2] 3 43), (43, o_ret0 16 12082)]
set_option maxRecDepth 20000 in
def tb_X2_init : Nat → oOp := oTab [(0, o_ald 0 1), (1, o_obj 4), (4, o_ald 0 5), (5, o_new 9 4 16 12082 8), (8, o_dup 9), (9, o_calli T_X9_init 0 3 90 16 12082 12), (12, o_putR [2] 0 15), (15, o_ald 0 16), (16, o_push (vI 10) 18), (18, o_newa 13 16 12082 20), (20, o_putR [2] 1 23), (23, o_ald 0 24), (24, o_push (vI 152) 27), (27, o_newa 13 16 12082 29), (29, o_putR [2] 2 32), (32, o_ald 0 33), (33, o_new 7 14 16 12082 36), (36, o_dup 37), (37, o_calli T_X7_init 0 9 11812 16 12082 40), (40, o_putR [2] 3 43), (43, o_ret0 16 12082)]
def T_X2_init : List oA → oM → oQ → Prop := oT tb_X2_init 1
set_option maxRecDepth 20000 in
theorem sn_X2_init_0 {p : Program} {l : Launch} {e : Env} {s : State} {m : MethodId} {args : Array Value} {below : List Frame} {meth : Method} {c : Code} {D : va_G} {ids : Nat → ClassId} {b : Nat} {Q : oQ} (C : oCx p s m args c cX2_init 1 (yX2_init).cls D ids b) (hr : meth.sig.returnType = none) (hlk : meth.locks = false) (hnm : meth.name = (yX2_init).name) : ∀ q ∈ tl_X2_init_0, oSn (oW p l e (oRm 2 41 16 12082) s m args below meth c 1 D ids b (oMQ D ids b below Q args s 16 12082)) Q q.1 q.2 := List.forall_mem_cons.mpr ⟨so_aload_n C 0 rfl dX2_init_0, List.forall_mem_cons.mpr ⟨so_obj C kw_167 kw_23 kw_24 (by decide) (by decide) dX2_init_1, List.forall_mem_cons.mpr ⟨so_aload_n C 0 rfl dX2_init_4, List.forall_mem_cons.mpr ⟨so_new C 9 4 RX9 TX9 16 12082 ⟨Nat.le_refl _, Nat.le_refl _⟩ (by decide) rfl rfl (cf_9).1 (cf_9).2.1 (df_9) kw_168 kw_169 kw_8 dX2_init_5, List.forall_mem_cons.mpr ⟨so_dup C dX2_init_8, List.forall_mem_cons.mpr ⟨so_callIN C (y := yX9_init) (host := RX11) 0 16 12082 ⟨Nat.le_refl _, Nat.le_refl _⟩ (c_X9_init l D ids) kw_172 (by decide) kw_171 kw_8 rfl hy_X9_init ⟨Nat.le_of_ble_eq_true rfl, Nat.le_of_ble_eq_true rfl⟩ dX2_init_9, List.forall_mem_cons.mpr ⟨so_putFR C hnm [2] 0 (fd_RX2_14_2 C) (ff_2_0) ft_2_0 dX2_init_12, List.forall_mem_cons.mpr ⟨so_aload_n C 0 rfl dX2_init_15, List.forall_mem_cons.mpr ⟨so_bipush C 10 rfl dX2_init_16, List.forall_mem_cons.mpr ⟨so_newa C 13 0 .int rfl 16 12082 ⟨Nat.le_refl _, Nat.le_refl _⟩ (by decide) (by decide) rfl rfl (by intro n h; cases h) (by decide) kw_47 dX2_init_18, List.forall_mem_cons.mpr ⟨so_putFR C hnm [2] 1 (fd_RX2_18_2 C) (ff_2_1) ft_2_1 dX2_init_20, List.forall_mem_cons.mpr ⟨so_aload_n C 0 rfl dX2_init_23, List.forall_mem_cons.mpr ⟨so_sipush C 152 rfl dX2_init_24, List.forall_mem_cons.mpr ⟨so_newa C 13 0 .int rfl 16 12082 ⟨Nat.le_refl _, Nat.le_refl _⟩ (by decide) (by decide) rfl rfl (by intro n h; cases h) (by decide) kw_47 dX2_init_27, List.forall_mem_cons.mpr ⟨so_putFR C hnm [2] 2 (fd_RX2_22_2 C) (ff_2_2) ft_2_2 dX2_init_29, List.forall_mem_cons.mpr ⟨so_aload_n C 0 rfl dX2_init_32, List.forall_mem_cons.mpr ⟨so_new C 7 14 RX7 TX7 16 12082 ⟨Nat.le_refl _, Nat.le_refl _⟩ (by decide) rfl rfl (cf_7).1 (cf_7).2.1 (df_7) kw_199 kw_200 kw_9 dX2_init_33, List.forall_mem_cons.mpr ⟨so_dup C dX2_init_36, List.forall_mem_cons.mpr ⟨so_callIN C (y := yX7_init) (host := RX11) 0 16 12082 ⟨Nat.le_refl _, Nat.le_refl _⟩ (c_X7_init l D ids) kw_203 (by decide) kw_202 kw_9 rfl hy_X7_init ⟨Nat.le_of_ble_eq_true rfl, Nat.le_of_ble_eq_true rfl⟩ dX2_init_37, List.forall_mem_cons.mpr ⟨so_putFR C hnm [2] 3 (fd_RX2_28_2 C) (ff_2_3) ft_2_3 dX2_init_40, List.forall_mem_cons.mpr ⟨so_ret0 C 16 12082 hr hlk dX2_init_43, fun _ h => absurd h List.not_mem_nil⟩⟩⟩⟩⟩⟩⟩⟩⟩⟩⟩⟩⟩⟩⟩⟩⟩⟩⟩⟩⟩
set_option maxRecDepth 20000 in
theorem c_X2_init (l : Launch) (D : va_G) (ids : Nat → ClassId) : oMT l D ids yX2_init cX2_init 1 none 2 41 16 12082 T_X2_init := oMet l D ids tb_X2_init (by decide) (fun p e s m args below meth c b Q C hr hlk hnm => oTab_all (tl_X2_init_0) (sn_X2_init_0 C hr hlk hnm))
theorem dX8_put_0 : decode cX8_put 0 = .ok (.aload_n 0, 1) := by decide +kernel
theorem dX8_put_1 : decode cX8_put 1 = .ok (.getfield 15, 3) := by decide +kernel
theorem dX8_put_4 : decode cX8_put 4 = .ok (.bipush 60, 2) := by decide +kernel
theorem dX8_put_6 : decode cX8_put 6 = .ok (.if_icmp .ge 23, 3) := by decide +kernel
theorem dX8_put_9 : decode cX8_put 9 = .ok (.aload_n 0, 1) := by decide +kernel
theorem dX8_put_10 : decode cX8_put 10 = .ok (.getfield 11, 3) := by decide +kernel
theorem dX8_put_13 : decode cX8_put 13 = .ok (.aload_n 0, 1) := by decide +kernel
theorem dX8_put_14 : decode cX8_put 14 = .ok (.getfield 15, 3) := by decide +kernel
theorem dX8_put_17 : decode cX8_put 17 = .ok (.iload_n 1, 1) := by decide +kernel
theorem dX8_put_18 : decode cX8_put 18 = .ok (.iastore, 1) := by decide +kernel
theorem dX8_put_19 : decode cX8_put 19 = .ok (.aload_n 0, 1) := by decide +kernel
theorem dX8_put_20 : decode cX8_put 20 = .ok (.dup, 1) := by decide +kernel
theorem dX8_put_21 : decode cX8_put 21 = .ok (.getfield 15, 3) := by decide +kernel
theorem dX8_put_24 : decode cX8_put 24 = .ok (.iconst 1, 1) := by decide +kernel
theorem dX8_put_25 : decode cX8_put 25 = .ok (.iadd, 1) := by decide +kernel
theorem dX8_put_26 : decode cX8_put 26 = .ok (.putfield 15, 3) := by decide +kernel
theorem dX8_put_29 : decode cX8_put 29 = .ok (.return_, 1) := by decide +kernel
abbrev tl_X8_put_0 : List (Nat × oOp) := [(0, o_ald 0 1), (1, o_getI [8] 1 4), (4, o_push (vI 60) 6), (6, o_ic pGe 29 9), (9, o_ald 0 10), (10, o_getR [8] 0 13), (13, o_ald 0 14), (14, o_getI [8] 1 17), (17, o_ild 1 18), (18, o_iast 19), (19, o_ald 0 20), (20, o_dup 21), (21, o_getI [8] 1 24), (24, o_push (vI 1) 25), (25, o_ib fAdd 26), (26, o_putI [8] 1 29), (29, o_ret0 0 0)]
set_option maxRecDepth 20000 in
def tb_X8_put : Nat → oOp := oTab [(0, o_ald 0 1), (1, o_getI [8] 1 4), (4, o_push (vI 60) 6), (6, o_ic pGe 29 9), (9, o_ald 0 10), (10, o_getR [8] 0 13), (13, o_ald 0 14), (14, o_getI [8] 1 17), (17, o_ild 1 18), (18, o_iast 19), (19, o_ald 0 20), (20, o_dup 21), (21, o_getI [8] 1 24), (24, o_push (vI 1) 25), (25, o_ib fAdd 26), (26, o_putI [8] 1 29), (29, o_ret0 0 0)]
def T_X8_put : List oA → oM → oQ → Prop := oT tb_X8_put 2
set_option maxRecDepth 20000 in
theorem sn_X8_put_0 {p : Program} {l : Launch} {e : Env} {s : State} {m : MethodId} {args : Array Value} {below : List Frame} {meth : Method} {c : Code} {D : va_G} {ids : Nat → ClassId} {b : Nat} {Q : oQ} (C : oCx p s m args c cX8_put 2 (yX8_put).cls D ids b) (hr : meth.sig.returnType = none) (hlk : meth.locks = false) (hnm : meth.name = (yX8_put).name) : ∀ q ∈ tl_X8_put_0, oSn (oW p l e (oRm 0 0 0 0) s m args below meth c 2 D ids b (oMQ D ids b below Q args s 0 0)) Q q.1 q.2 := List.forall_mem_cons.mpr ⟨so_aload_n C 0 rfl dX8_put_0, List.forall_mem_cons.mpr ⟨so_getI C [8] 1 (fd_RX8_15_8 C) (by decide) dX8_put_1, List.forall_mem_cons.mpr ⟨so_bipush C 60 rfl dX8_put_4, List.forall_mem_cons.mpr ⟨so_ic_ge C (by decide) dX8_put_6, List.forall_mem_cons.mpr ⟨so_aload_n C 0 rfl dX8_put_9, List.forall_mem_cons.mpr ⟨so_getR C [8] 0 (fd_RX8_11_8 C) (ft_8_0) dX8_put_10, List.forall_mem_cons.mpr ⟨so_aload_n C 0 rfl dX8_put_13, List.forall_mem_cons.mpr ⟨so_getI C [8] 1 (fd_RX8_15_8 C) (by decide) dX8_put_14, List.forall_mem_cons.mpr ⟨so_iload_n C 1 rfl dX8_put_17, List.forall_mem_cons.mpr ⟨so_iast C dX8_put_18, List.forall_mem_cons.mpr ⟨so_aload_n C 0 rfl dX8_put_19, List.forall_mem_cons.mpr ⟨so_dup C dX8_put_20, List.forall_mem_cons.mpr ⟨so_getI C [8] 1 (fd_RX8_15_8 C) (by decide) dX8_put_21, List.forall_mem_cons.mpr ⟨so_iconst C 1 rfl dX8_put_24, List.forall_mem_cons.mpr ⟨so_iadd C dX8_put_25, List.forall_mem_cons.mpr ⟨so_putI C [8] 1 (fd_RX8_15_8 C) (fn_8_1) (by decide) dX8_put_26, List.forall_mem_cons.mpr ⟨so_ret0 C 0 0 hr hlk dX8_put_29, fun _ h => absurd h List.not_mem_nil⟩⟩⟩⟩⟩⟩⟩⟩⟩⟩⟩⟩⟩⟩⟩⟩⟩
set_option maxRecDepth 20000 in
theorem c_X8_put (l : Launch) (D : va_G) (ids : Nat → ClassId) : oMT l D ids yX8_put cX8_put 2 none 0 0 0 0 T_X8_put := oMet l D ids tb_X8_put (by decide) (fun p e s m args below meth c b Q C hr hlk hnm => oTab_all (tl_X8_put_0) (sn_X8_put_0 C hr hlk hnm))
theorem dX3_init_0 : decode cX3_init 0 = .ok (.aload_n 0, 1) := by decide +kernel
theorem dX3_init_1 : decode cX3_init 1 = .ok (.iload_n 1, 1) := by decide +kernel
theorem dX3_init_2 : decode cX3_init 2 = .ok (.iload_n 2, 1) := by decide +kernel
theorem dX3_init_3 : decode cX3_init 3 = .ok (.invokespecial 3, 3) := by decide +kernel
theorem dX3_init_6 : decode cX3_init 6 = .ok (.return_, 1) := by decide +kernel
abbrev tl_X3_init_0 : List (Nat × oOp) := [(0, o_ald 0 1), (1, o_ild 1 2), (2, o_ild 2 3), (3, o_calli T_X0_init 2 0 0 0 0 6), (6, o_ret0 0 0)]
set_option maxRecDepth 20000 in
def tb_X3_init : Nat → oOp := oTab [(0, o_ald 0 1), (1, o_ild 1 2), (2, o_ild 2 3), (3, o_calli T_X0_init 2 0 0 0 0 6), (6, o_ret0 0 0)]
def T_X3_init : List oA → oM → oQ → Prop := oT tb_X3_init 3
set_option maxRecDepth 20000 in
theorem sn_X3_init_0 {p : Program} {l : Launch} {e : Env} {s : State} {m : MethodId} {args : Array Value} {below : List Frame} {meth : Method} {c : Code} {D : va_G} {ids : Nat → ClassId} {b : Nat} {Q : oQ} (C : oCx p s m args c cX3_init 3 (yX3_init).cls D ids b) (hr : meth.sig.returnType = none) (hlk : meth.locks = false) (hnm : meth.name = (yX3_init).name) : ∀ q ∈ tl_X3_init_0, oSn (oW p l e (oRm 2 43 0 0) s m args below meth c 3 D ids b (oMQ D ids b below Q args s 0 0)) Q q.1 q.2 := List.forall_mem_cons.mpr ⟨so_aload_n C 0 rfl dX3_init_0, List.forall_mem_cons.mpr ⟨so_iload_n C 1 rfl dX3_init_1, List.forall_mem_cons.mpr ⟨so_iload_n C 2 rfl dX3_init_2, List.forall_mem_cons.mpr ⟨so_callI C (y := yX0_init) 2 0 0 ⟨Nat.le_refl _, Nat.le_refl _⟩ (c_X0_init l D ids) kw_133 kw_464 kw_132 kw_5 rfl hy_X0_init ⟨Nat.le_of_ble_eq_true rfl, Nat.le_of_ble_eq_true rfl⟩ dX3_init_3, List.forall_mem_cons.mpr ⟨so_ret0 C 0 0 hr hlk dX3_init_6, fun _ h => absurd h List.not_mem_nil⟩⟩⟩⟩⟩
set_option maxRecDepth 20000 in
theorem c_X3_init (l : Launch) (D : va_G) (ids : Nat → ClassId) : oMT l D ids yX3_init cX3_init 3 none 2 43 0 0 T_X3_init := oMet l D ids tb_X3_init (by decide) (fun p e s m args below meth c b Q C hr hlk hnm => oTab_all (tl_X3_init_0) (sn_X3_init_0 C hr hlk hnm))
theorem dX5_init_0 : decode cX5_init 0 = .ok (.aload_n 0, 1) := by decide +kernel
theorem dX5_init_1 : decode cX5_init 1 = .ok (.iload_n 1, 1) := by decide +kernel
theorem dX5_init_2 : decode cX5_init 2 = .ok (.iload_n 2, 1) := by decide +kernel
theorem dX5_init_3 : decode cX5_init 3 = .ok (.invokespecial 1, 3) := by decide +kernel
theorem dX5_init_6 : decode cX5_init 6 = .ok (.return_, 1) := by decide +kernel
abbrev tl_X5_init_0 : List (Nat × oOp) := [(0, o_ald 0 1), (1, o_ild 1 2), (2, o_ild 2 3), (3, o_calli T_X3_init 2 0 0 0 0 6), (6, o_ret0 0 0)]
set_option maxRecDepth 20000 in
def tb_X5_init : Nat → oOp := oTab [(0, o_ald 0 1), (1, o_ild 1 2), (2, o_ild 2 3), (3, o_calli T_X3_init 2 0 0 0 0 6), (6, o_ret0 0 0)]
def T_X5_init : List oA → oM → oQ → Prop := oT tb_X5_init 3
set_option maxRecDepth 20000 in
theorem sn_X5_init_0 {p : Program} {l : Launch} {e : Env} {s : State} {m : MethodId} {args : Array Value} {below : List Frame} {meth : Method} {c : Code} {D : va_G} {ids : Nat → ClassId} {b : Nat} {Q : oQ} (C : oCx p s m args c cX5_init 3 (yX5_init).cls D ids b) (hr : meth.sig.returnType = none) (hlk : meth.locks = false) (hnm : meth.name = (yX5_init).name) : ∀ q ∈ tl_X5_init_0, oSn (oW p l e (oRm 3 65 0 0) s m args below meth c 3 D ids b (oMQ D ids b below Q args s 0 0)) Q q.1 q.2 := List.forall_mem_cons.mpr ⟨so_aload_n C 0 rfl dX5_init_0, List.forall_mem_cons.mpr ⟨so_iload_n C 1 rfl dX5_init_1, List.forall_mem_cons.mpr ⟨so_iload_n C 2 rfl dX5_init_2, List.forall_mem_cons.mpr ⟨so_callI C (y := yX3_init) 2 0 0 ⟨Nat.le_refl _, Nat.le_refl _⟩ (c_X3_init l D ids) kw_463 kw_473 kw_462 kw_14 rfl hy_X3_init ⟨Nat.le_of_ble_eq_true rfl, Nat.le_of_ble_eq_true rfl⟩ dX5_init_3, List.forall_mem_cons.mpr ⟨so_ret0 C 0 0 hr hlk dX5_init_6, fun _ h => absurd h List.not_mem_nil⟩⟩⟩⟩⟩
set_option maxRecDepth 20000 in
theorem c_X5_init (l : Launch) (D : va_G) (ids : Nat → ClassId) : oMT l D ids yX5_init cX5_init 3 none 3 65 0 0 T_X5_init := oMet l D ids tb_X5_init (by decide) (fun p e s m args below meth c b Q C hr hlk hnm => oTab_all (tl_X5_init_0) (sn_X5_init_0 C hr hlk hnm))
theorem dX1_init_0 : decode cX1_init 0 = .ok (.aload_n 0, 1) := by decide +kernel
theorem dX1_init_1 : decode cX1_init 1 = .ok (.iload_n 1, 1) := by decide +kernel
theorem dX1_init_2 : decode cX1_init 2 = .ok (.iconst 0, 1) := by decide +kernel
theorem dX1_init_3 : decode cX1_init 3 = .ok (.invokespecial 3, 3) := by decide +kernel
theorem dX1_init_6 : decode cX1_init 6 = .ok (.return_, 1) := by decide +kernel
abbrev tl_X1_init_0 : List (Nat × oOp) := [(0, o_ald 0 1), (1, o_ild 1 2), (2, o_push (vI 0) 3), (3, o_calli T_X0_init 2 0 0 0 0 6), (6, o_ret0 0 0)]
set_option maxRecDepth 20000 in
def tb_X1_init : Nat → oOp := oTab [(0, o_ald 0 1), (1, o_ild 1 2), (2, o_push (vI 0) 3), (3, o_calli T_X0_init 2 0 0 0 0 6), (6, o_ret0 0 0)]
def T_X1_init : List oA → oM → oQ → Prop := oT tb_X1_init 2
set_option maxRecDepth 20000 in
theorem sn_X1_init_0 {p : Program} {l : Launch} {e : Env} {s : State} {m : MethodId} {args : Array Value} {below : List Frame} {meth : Method} {c : Code} {D : va_G} {ids : Nat → ClassId} {b : Nat} {Q : oQ} (C : oCx p s m args c cX1_init 2 (yX1_init).cls D ids b) (hr : meth.sig.returnType = none) (hlk : meth.locks = false) (hnm : meth.name = (yX1_init).name) : ∀ q ∈ tl_X1_init_0, oSn (oW p l e (oRm 2 43 0 0) s m args below meth c 2 D ids b (oMQ D ids b below Q args s 0 0)) Q q.1 q.2 := List.forall_mem_cons.mpr ⟨so_aload_n C 0 rfl dX1_init_0, List.forall_mem_cons.mpr ⟨so_iload_n C 1 rfl dX1_init_1, List.forall_mem_cons.mpr ⟨so_iconst C 0 rfl dX1_init_2, List.forall_mem_cons.mpr ⟨so_callI C (y := yX0_init) 2 0 0 ⟨Nat.le_refl _, Nat.le_refl _⟩ (c_X0_init l D ids) kw_133 kw_482 kw_132 kw_5 rfl hy_X0_init ⟨Nat.le_of_ble_eq_true rfl, Nat.le_of_ble_eq_true rfl⟩ dX1_init_3, List.forall_mem_cons.mpr ⟨so_ret0 C 0 0 hr hlk dX1_init_6, fun _ h => absurd h List.not_mem_nil⟩⟩⟩⟩⟩
set_option maxRecDepth 20000 in
theorem c_X1_init (l : Launch) (D : va_G) (ids : Nat → ClassId) : oMT l D ids yX1_init cX1_init 2 none 2 43 0 0 T_X1_init := oMet l D ids tb_X1_init (by decide) (fun p e s m args below meth c b Q C hr hlk hnm => oTab_all (tl_X1_init_0) (sn_X1_init_0 C hr hlk hnm))
theorem dX6_chancesOf_0 : decode cX6_chancesOf 0 = .ok (.iconst 1, 1) := by decide +kernel
theorem dX6_chancesOf_1 : decode cX6_chancesOf 1 = .ok (.istore_n 2, 1) := by decide +kernel
theorem dX6_chancesOf_2 : decode cX6_chancesOf 2 = .ok (.iconst 0, 1) := by decide +kernel
theorem dX6_chancesOf_3 : decode cX6_chancesOf 3 = .ok (.istore_n 3, 1) := by decide +kernel
theorem dX6_chancesOf_4 : decode cX6_chancesOf 4 = .ok (.iload_n 3, 1) := by decide +kernel
theorem dX6_chancesOf_5 : decode cX6_chancesOf 5 = .ok (.aload_n 0, 1) := by decide +kernel
theorem dX6_chancesOf_6 : decode cX6_chancesOf 6 = .ok (.getfield 30, 3) := by decide +kernel
theorem dX6_chancesOf_9 : decode cX6_chancesOf 9 = .ok (.if_icmp .ge 39, 3) := by decide +kernel
theorem dX6_chancesOf_12 : decode cX6_chancesOf 12 = .ok (.iload_n 2, 1) := by decide +kernel
theorem dX6_chancesOf_13 : decode cX6_chancesOf 13 = .ok (.iload_n 1, 1) := by decide +kernel
theorem dX6_chancesOf_14 : decode cX6_chancesOf 14 = .ok (.iload_n 3, 1) := by decide +kernel
theorem dX6_chancesOf_15 : decode cX6_chancesOf 15 = .ok (.ishr, 1) := by decide +kernel
theorem dX6_chancesOf_16 : decode cX6_chancesOf 16 = .ok (.iconst 1, 1) := by decide +kernel
theorem dX6_chancesOf_17 : decode cX6_chancesOf 17 = .ok (.iand, 1) := by decide +kernel
theorem dX6_chancesOf_18 : decode cX6_chancesOf 18 = .ok (.iconst 1, 1) := by decide +kernel
theorem dX6_chancesOf_19 : decode cX6_chancesOf 19 = .ok (.if_icmp .ne 12, 3) := by decide +kernel
theorem dX6_chancesOf_22 : decode cX6_chancesOf 22 = .ok (.aload_n 0, 1) := by decide +kernel
theorem dX6_chancesOf_23 : decode cX6_chancesOf 23 = .ok (.getfield 18, 3) := by decide +kernel
theorem dX6_chancesOf_26 : decode cX6_chancesOf 26 = .ok (.iload_n 3, 1) := by decide +kernel
theorem dX6_chancesOf_27 : decode cX6_chancesOf 27 = .ok (.iaload, 1) := by decide +kernel
theorem dX6_chancesOf_28 : decode cX6_chancesOf 28 = .ok (.goto 12, 3) := by decide +kernel
theorem dX6_chancesOf_31 : decode cX6_chancesOf 31 = .ok (.bipush 10, 2) := by decide +kernel
theorem dX6_chancesOf_33 : decode cX6_chancesOf 33 = .ok (.aload_n 0, 1) := by decide +kernel
theorem dX6_chancesOf_34 : decode cX6_chancesOf 34 = .ok (.getfield 18, 3) := by decide +kernel
theorem dX6_chancesOf_37 : decode cX6_chancesOf 37 = .ok (.iload_n 3, 1) := by decide +kernel
theorem dX6_chancesOf_38 : decode cX6_chancesOf 38 = .ok (.iaload, 1) := by decide +kernel
theorem dX6_chancesOf_39 : decode cX6_chancesOf 39 = .ok (.isub, 1) := by decide +kernel
theorem dX6_chancesOf_40 : decode cX6_chancesOf 40 = .ok (.imul, 1) := by decide +kernel
theorem dX6_chancesOf_41 : decode cX6_chancesOf 41 = .ok (.istore_n 2, 1) := by decide +kernel
theorem dX6_chancesOf_42 : decode cX6_chancesOf 42 = .ok (.iinc 3 1, 3) := by decide +kernel
theorem dX6_chancesOf_45 : decode cX6_chancesOf 45 = .ok (.goto (-41), 3) := by decide +kernel
theorem dX6_chancesOf_48 : decode cX6_chancesOf 48 = .ok (.iload_n 2, 1) := by decide +kernel
theorem dX6_chancesOf_49 : decode cX6_chancesOf 49 = .ok (.ireturn, 1) := by decide +kernel
abbrev tl_X6_chancesOf_0 : List (Nat × oOp) := [(0, o_push (vI 1) 1), (1, o_ist 2 2), (2, o_push (vI 0) 3), (3, o_ist 3 4), (4, o_ild 3 5), (5, o_ald 0 6), (6, o_getI [6] 1 9), (9, o_ic pGe 48 12), (12, o_ild 2 13), (13, o_ild 1 14), (14, o_ild 3 15), (15, o_ib fShr 16), (16, o_push (vI 1) 17), (17, o_ib fAnd 18), (18, o_push (vI 1) 19), (19, o_ic pNe 31 22), (22, o_ald 0 23), (23, o_getR [6] 4 26), (26, o_ild 3 27), (27, o_xald 13 28), (28, o_go 40), (31, o_push (vI 10) 33), (33, o_ald 0 34), (34, o_getR [6] 4 37)]
abbrev tl_X6_chancesOf_1 : List (Nat × oOp) := [(37, o_ild 3 38), (38, o_xald 13 39), (39, o_ib fSub 40), (40, o_ib fMul 41), (41, o_ist 2 42), (42, o_inc 3 1 45), (45, o_go 4), (48, o_ild 2 49), (49, o_reti 0 0)]
set_option maxRecDepth 20000 in
def tb_X6_chancesOf : Nat → oOp := oTab [(0, o_push (vI 1) 1), (1, o_ist 2 2), (2, o_push (vI 0) 3), (3, o_ist 3 4), (4, o_ild 3 5), (5, o_ald 0 6), (6, o_getI [6] 1 9), (9, o_ic pGe 48 12), (12, o_ild 2 13), (13, o_ild 1 14), (14, o_ild 3 15), (15, o_ib fShr 16), (16, o_push (vI 1) 17), (17, o_ib fAnd 18), (18, o_push (vI 1) 19), (19, o_ic pNe 31 22), (22, o_ald 0 23), (23, o_getR [6] 4 26), (26, o_ild 3 27), (27, o_xald 13 28), (28, o_go 40), (31, o_push (vI 10) 33), (33, o_ald 0 34), (34, o_getR [6] 4 37), (37, o_ild 3 38), (38, o_xald 13 39), (39, o_ib fSub 40), (40, o_ib fMul 41), (41, o_ist 2 42), (42, o_inc 3 1 45), (45, o_go 4), (48, o_ild 2 49), (49, o_reti 0 0)]
def T_X6_chancesOf : List oA → oM → oQ → Prop := oT tb_X6_chancesOf 4
set_option maxRecDepth 20000 in
theorem sn_X6_chancesOf_0 {p : Program} {l : Launch} {e : Env} {s : State} {m : MethodId} {args : Array Value} {below : List Frame} {meth : Method} {c : Code} {D : va_G} {ids : Nat → ClassId} {b : Nat} {Q : oQ} (C : oCx p s m args c cX6_chancesOf 4 (yX6_chancesOf).cls D ids b) (hr : meth.sig.returnType = (some .int)) (hlk : meth.locks = false) (hnm : meth.name = (yX6_chancesOf).name) : ∀ q ∈ tl_X6_chancesOf_0, oSn (oW p l e (oRm 0 0 0 0) s m args below meth c 4 D ids b (oMQ D ids b below Q args s 0 0)) Q q.1 q.2 := List.forall_mem_cons.mpr ⟨so_iconst C 1 rfl dX6_chancesOf_0, List.forall_mem_cons.mpr ⟨so_istore_n C 2 rfl (by decide) dX6_chancesOf_1, List.forall_mem_cons.mpr ⟨so_iconst C 0 rfl dX6_chancesOf_2, List.forall_mem_cons.mpr ⟨so_istore_n C 3 rfl (by decide) dX6_chancesOf_3, List.forall_mem_cons.mpr ⟨so_iload_n C 3 rfl dX6_chancesOf_4, List.forall_mem_cons.mpr ⟨so_aload_n C 0 rfl dX6_chancesOf_5, List.forall_mem_cons.mpr ⟨so_getI C [6] 1 (fd_RX6_30_6 C) (by decide) dX6_chancesOf_6, List.forall_mem_cons.mpr ⟨so_ic_ge C (by decide) dX6_chancesOf_9, List.forall_mem_cons.mpr ⟨so_iload_n C 2 rfl dX6_chancesOf_12, List.forall_mem_cons.mpr ⟨so_iload_n C 1 rfl dX6_chancesOf_13, List.forall_mem_cons.mpr ⟨so_iload_n C 3 rfl dX6_chancesOf_14, List.forall_mem_cons.mpr ⟨so_ishr C dX6_chancesOf_15, List.forall_mem_cons.mpr ⟨so_iconst C 1 rfl dX6_chancesOf_16, List.forall_mem_cons.mpr ⟨so_iand C dX6_chancesOf_17, List.forall_mem_cons.mpr ⟨so_iconst C 1 rfl dX6_chancesOf_18, List.forall_mem_cons.mpr ⟨so_ic_ne C (by decide) dX6_chancesOf_19, List.forall_mem_cons.mpr ⟨so_aload_n C 0 rfl dX6_chancesOf_22, List.forall_mem_cons.mpr ⟨so_getR C [6] 4 (fd_RX6_18_6 C) (ft_6_4) dX6_chancesOf_23, List.forall_mem_cons.mpr ⟨so_iload_n C 3 rfl dX6_chancesOf_26, List.forall_mem_cons.mpr ⟨so_iald C dX6_chancesOf_27, List.forall_mem_cons.mpr ⟨so_goto C (by decide) dX6_chancesOf_28, List.forall_mem_cons.mpr ⟨so_bipush C 10 rfl dX6_chancesOf_31, List.forall_mem_cons.mpr ⟨so_aload_n C 0 rfl dX6_chancesOf_33, List.forall_mem_cons.mpr ⟨so_getR C [6] 4 (fd_RX6_18_6 C) (ft_6_4) dX6_chancesOf_34, fun _ h => absurd h List.not_mem_nil⟩⟩⟩⟩⟩⟩⟩⟩⟩⟩⟩⟩⟩⟩⟩⟩⟩⟩⟩⟩⟩⟩⟩⟩
set_option maxRecDepth 20000 in
theorem sn_X6_chancesOf_1 {p : Program} {l : Launch} {e : Env} {s : State} {m : MethodId} {args : Array Value} {below : List Frame} {meth : Method} {c : Code} {D : va_G} {ids : Nat → ClassId} {b : Nat} {Q : oQ} (C : oCx p s m args c cX6_chancesOf 4 (yX6_chancesOf).cls D ids b) (hr : meth.sig.returnType = (some .int)) (hlk : meth.locks = false) (hnm : meth.name = (yX6_chancesOf).name) : ∀ q ∈ tl_X6_chancesOf_1, oSn (oW p l e (oRm 0 0 0 0) s m args below meth c 4 D ids b (oMQ D ids b below Q args s 0 0)) Q q.1 q.2 := List.forall_mem_cons.mpr ⟨so_iload_n C 3 rfl dX6_chancesOf_37, List.forall_mem_cons.mpr ⟨so_iald C dX6_chancesOf_38, List.forall_mem_cons.mpr ⟨so_isub C dX6_chancesOf_39, List.forall_mem_cons.mpr ⟨so_imul C dX6_chancesOf_40, List.forall_mem_cons.mpr ⟨so_istore_n C 2 rfl (by decide) dX6_chancesOf_41, List.forall_mem_cons.mpr ⟨so_iinc C 3 1 (by decide) dX6_chancesOf_42, List.forall_mem_cons.mpr ⟨so_goto C (by decide) dX6_chancesOf_45, List.forall_mem_cons.mpr ⟨so_iload_n C 2 rfl dX6_chancesOf_48, List.forall_mem_cons.mpr ⟨so_reti C 0 0 hr hlk dX6_chancesOf_49, fun _ h => absurd h List.not_mem_nil⟩⟩⟩⟩⟩⟩⟩⟩⟩
set_option maxRecDepth 20000 in
theorem c_X6_chancesOf (l : Launch) (D : va_G) (ids : Nat → ClassId) : oMT l D ids yX6_chancesOf cX6_chancesOf 4 (some .int) 0 0 0 0 T_X6_chancesOf := oMet l D ids tb_X6_chancesOf (by decide) (fun p e s m args below meth c b Q C hr hlk hnm => oTab_all (tl_X6_chancesOf_0 ++ (tl_X6_chancesOf_1)) (List.forall_mem_append.mpr ⟨sn_X6_chancesOf_0 C hr hlk hnm, sn_X6_chancesOf_1 C hr hlk hnm⟩))
theorem dX6_allChances_0 : decode cX6_allChances 0 = .ok (.aload_n 0, 1) := by decide +kernel
theorem dX6_allChances_1 : decode cX6_allChances 1 = .ok (.getfield 30, 3) := by decide +kernel
theorem dX6_allChances_4 : decode cX6_allChances 4 = .ok (.ifCond .ne 7, 3) := by decide +kernel
theorem dX6_allChances_7 : decode cX6_allChances 7 = .ok (.iconst 1, 1) := by decide +kernel
theorem dX6_allChances_8 : decode cX6_allChances 8 = .ok (.goto 18, 3) := by decide +kernel
theorem dX6_allChances_11 : decode cX6_allChances 11 = .ok (.aload_n 0, 1) := by decide +kernel
theorem dX6_allChances_12 : decode cX6_allChances 12 = .ok (.getfield 30, 3) := by decide +kernel
theorem dX6_allChances_15 : decode cX6_allChances 15 = .ok (.iconst 1, 1) := by decide +kernel
theorem dX6_allChances_16 : decode cX6_allChances 16 = .ok (.if_icmp .ne 8, 3) := by decide +kernel
theorem dX6_allChances_19 : decode cX6_allChances 19 = .ok (.bipush 10, 2) := by decide +kernel
theorem dX6_allChances_21 : decode cX6_allChances 21 = .ok (.goto 5, 3) := by decide +kernel
theorem dX6_allChances_24 : decode cX6_allChances 24 = .ok (.bipush 100, 2) := by decide +kernel
theorem dX6_allChances_26 : decode cX6_allChances 26 = .ok (.ireturn, 1) := by decide +kernel
abbrev tl_X6_allChances_0 : List (Nat × oOp) := [(0, o_ald 0 1), (1, o_getI [6] 1 4), (4, o_if zNe 11 7), (7, o_push (vI 1) 8), (8, o_go 26), (11, o_ald 0 12), (12, o_getI [6] 1 15), (15, o_push (vI 1) 16), (16, o_ic pNe 24 19), (19, o_push (vI 10) 21), (21, o_go 26), (24, o_push (vI 100) 26), (26, o_reti 0 0)]
set_option maxRecDepth 20000 in
def tb_X6_allChances : Nat → oOp := oTab [(0, o_ald 0 1), (1, o_getI [6] 1 4), (4, o_if zNe 11 7), (7, o_push (vI 1) 8), (8, o_go 26), (11, o_ald 0 12), (12, o_getI [6] 1 15), (15, o_push (vI 1) 16), (16, o_ic pNe 24 19), (19, o_push (vI 10) 21), (21, o_go 26), (24, o_push (vI 100) 26), (26, o_reti 0 0)]
def T_X6_allChances : List oA → oM → oQ → Prop := oT tb_X6_allChances 1
set_option maxRecDepth 20000 in
theorem sn_X6_allChances_0 {p : Program} {l : Launch} {e : Env} {s : State} {m : MethodId} {args : Array Value} {below : List Frame} {meth : Method} {c : Code} {D : va_G} {ids : Nat → ClassId} {b : Nat} {Q : oQ} (C : oCx p s m args c cX6_allChances 1 (yX6_allChances).cls D ids b) (hr : meth.sig.returnType = (some .int)) (hlk : meth.locks = false) (hnm : meth.name = (yX6_allChances).name) : ∀ q ∈ tl_X6_allChances_0, oSn (oW p l e (oRm 0 0 0 0) s m args below meth c 1 D ids b (oMQ D ids b below Q args s 0 0)) Q q.1 q.2 := List.forall_mem_cons.mpr ⟨so_aload_n C 0 rfl dX6_allChances_0, List.forall_mem_cons.mpr ⟨so_getI C [6] 1 (fd_RX6_30_6 C) (by decide) dX6_allChances_1, List.forall_mem_cons.mpr ⟨so_if_ne C (by decide) dX6_allChances_4, List.forall_mem_cons.mpr ⟨so_iconst C 1 rfl dX6_allChances_7, List.forall_mem_cons.mpr ⟨so_goto C (by decide) dX6_allChances_8, List.forall_mem_cons.mpr ⟨so_aload_n C 0 rfl dX6_allChances_11, List.forall_mem_cons.mpr ⟨so_getI C [6] 1 (fd_RX6_30_6 C) (by decide) dX6_allChances_12, List.forall_mem_cons.mpr ⟨so_iconst C 1 rfl dX6_allChances_15, List.forall_mem_cons.mpr ⟨so_ic_ne C (by decide) dX6_allChances_16, List.forall_mem_cons.mpr ⟨so_bipush C 10 rfl dX6_allChances_19, List.forall_mem_cons.mpr ⟨so_goto C (by decide) dX6_allChances_21, List.forall_mem_cons.mpr ⟨so_bipush C 100 rfl dX6_allChances_24, List.forall_mem_cons.mpr ⟨so_reti C 0 0 hr hlk dX6_allChances_26, fun _ h => absurd h List.not_mem_nil⟩⟩⟩⟩⟩⟩⟩⟩⟩⟩⟩⟩⟩
set_option maxRecDepth 20000 in
theorem c_X6_allChances (l : Launch) (D : va_G) (ids : Nat → ClassId) : oMT l D ids yX6_allChances cX6_allChances 1 (some .int) 0 0 0 0 T_X6_allChances := oMet l D ids tb_X6_allChances (by decide) (fun p e s m args below meth c b Q C hr hlk hnm => oTab_all (tl_X6_allChances_0) (sn_X6_allChances_0 C hr hlk hnm))
theorem dX1_takesOneMore_0 : decode cX1_takesOneMore 0 = .ok (.iconst 0, 1) := by decide +kernel
theorem dX1_takesOneMore_1 : decode cX1_takesOneMore 1 = .ok (.ireturn, 1) := by decide +kernel
abbrev tl_X1_takesOneMore_0 : List (Nat × oOp) := [(0, o_push (vI 0) 1), (1, o_retz 0 0)]
set_option maxRecDepth 20000 in
def tb_X1_takesOneMore : Nat → oOp := oTab [(0, o_push (vI 0) 1), (1, o_retz 0 0)]
def T_X1_takesOneMore : List oA → oM → oQ → Prop := oT tb_X1_takesOneMore 1
set_option maxRecDepth 20000 in
theorem sn_X1_takesOneMore_0 {p : Program} {l : Launch} {e : Env} {s : State} {m : MethodId} {args : Array Value} {below : List Frame} {meth : Method} {c : Code} {D : va_G} {ids : Nat → ClassId} {b : Nat} {Q : oQ} (C : oCx p s m args c cX1_takesOneMore 1 (yX1_takesOneMore).cls D ids b) (hr : meth.sig.returnType = (some .boolean)) (hlk : meth.locks = false) (hnm : meth.name = (yX1_takesOneMore).name) : ∀ q ∈ tl_X1_takesOneMore_0, oSn (oW p l e (oRm 0 0 0 0) s m args below meth c 1 D ids b (oMQ D ids b below Q args s 0 0)) Q q.1 q.2 := List.forall_mem_cons.mpr ⟨so_iconst C 0 rfl dX1_takesOneMore_0, List.forall_mem_cons.mpr ⟨so_retz C 0 0 hr hlk dX1_takesOneMore_1, fun _ h => absurd h List.not_mem_nil⟩⟩
set_option maxRecDepth 20000 in
theorem c_X1_takesOneMore (l : Launch) (D : va_G) (ids : Nat → ClassId) : oMT l D ids yX1_takesOneMore cX1_takesOneMore 1 (some .boolean) 0 0 0 0 T_X1_takesOneMore := oMet l D ids tb_X1_takesOneMore (by decide) (fun p e s m args below meth c b Q C hr hlk hnm => oTab_all (tl_X1_takesOneMore_0) (sn_X1_takesOneMore_0 C hr hlk hnm))
theorem dX4_getMore_0 : decode cX4_getMore 0 = .ok (.iload_n 1, 1) := by decide +kernel
theorem dX4_getMore_1 : decode cX4_getMore 1 = .ok (.tableswitch 88 1 4 #[31, 44, 57, 71], 31) := by decide +kernel
theorem dX4_getMore_32 : decode cX4_getMore 32 = .ok (.aload_n 0, 1) := by decide +kernel
theorem dX4_getMore_33 : decode cX4_getMore 33 = .ok (.dup, 1) := by decide +kernel
theorem dX4_getMore_34 : decode cX4_getMore 34 = .ok (.getfield 52, 3) := by decide +kernel
theorem dX4_getMore_37 : decode cX4_getMore 37 = .ok (.iconst 1, 1) := by decide +kernel
theorem dX4_getMore_38 : decode cX4_getMore 38 = .ok (.iadd, 1) := by decide +kernel
theorem dX4_getMore_39 : decode cX4_getMore 39 = .ok (.putfield 52, 3) := by decide +kernel
theorem dX4_getMore_42 : decode cX4_getMore 42 = .ok (.goto 47, 3) := by decide +kernel
theorem dX4_getMore_45 : decode cX4_getMore 45 = .ok (.aload_n 0, 1) := by decide +kernel
theorem dX4_getMore_46 : decode cX4_getMore 46 = .ok (.dup, 1) := by decide +kernel
theorem dX4_getMore_47 : decode cX4_getMore 47 = .ok (.getfield 61, 3) := by decide +kernel
theorem dX4_getMore_50 : decode cX4_getMore 50 = .ok (.iconst 1, 1) := by decide +kernel
theorem dX4_getMore_51 : decode cX4_getMore 51 = .ok (.iadd, 1) := by decide +kernel
theorem dX4_getMore_52 : decode cX4_getMore 52 = .ok (.putfield 61, 3) := by decide +kernel
theorem dX4_getMore_55 : decode cX4_getMore 55 = .ok (.goto 34, 3) := by decide +kernel
theorem dX4_getMore_58 : decode cX4_getMore 58 = .ok (.aload_n 0, 1) := by decide +kernel
theorem dX4_getMore_59 : decode cX4_getMore 59 = .ok (.getfield 9, 3) := by decide +kernel
theorem dX4_getMore_62 : decode cX4_getMore 62 = .ok (.iconst 0, 1) := by decide +kernel
theorem dX4_getMore_63 : decode cX4_getMore 63 = .ok (.dup2, 1) := by decide +kernel
theorem dX4_getMore_64 : decode cX4_getMore 64 = .ok (.iaload, 1) := by decide +kernel
theorem dX4_getMore_65 : decode cX4_getMore 65 = .ok (.bipush 10, 2) := by decide +kernel
theorem dX4_getMore_67 : decode cX4_getMore 67 = .ok (.iadd, 1) := by decide +kernel
theorem dX4_getMore_68 : decode cX4_getMore 68 = .ok (.iastore, 1) := by decide +kernel
theorem dX4_getMore_69 : decode cX4_getMore 69 = .ok (.goto 20, 3) := by decide +kernel
theorem dX4_getMore_72 : decode cX4_getMore 72 = .ok (.aload_n 0, 1) := by decide +kernel
theorem dX4_getMore_73 : decode cX4_getMore 73 = .ok (.iconst 0, 1) := by decide +kernel
theorem dX4_getMore_74 : decode cX4_getMore 74 = .ok (.aload_n 0, 1) := by decide +kernel
theorem dX4_getMore_75 : decode cX4_getMore 75 = .ok (.getfield 58, 3) := by decide +kernel
theorem dX4_getMore_78 : decode cX4_getMore 78 = .ok (.iconst 1, 1) := by decide +kernel
theorem dX4_getMore_79 : decode cX4_getMore 79 = .ok (.isub, 1) := by decide +kernel
theorem dX4_getMore_80 : decode cX4_getMore 80 = .ok (.invokestatic 73, 3) := by decide +kernel
theorem dX4_getMore_83 : decode cX4_getMore 83 = .ok (.putfield 58, 3) := by decide +kernel
theorem dX4_getMore_86 : decode cX4_getMore 86 = .ok (.goto 3, 3) := by decide +kernel
theorem dX4_getMore_89 : decode cX4_getMore 89 = .ok (.return_, 1) := by decide +kernel
abbrev tl_X4_getMore_0 : List (Nat × oOp) := [(0, o_ild 1 1), (1, o_sw (swT 1 [32, 45, 58, 72] 89)), (32, o_ald 0 33), (33, o_dup 34), (34, o_getI [4] 3 37), (37, o_push (vI 1) 38), (38, o_ib fAdd 39), (39, o_putI [4] 3 42), (42, o_go 89), (45, o_ald 0 46), (46, o_dup 47), (47, o_getI [4] 5 50), (50, o_push (vI 1) 51), (51, o_ib fAdd 52), (52, o_putI [4] 5 55), (55, o_go 89), (58, o_ald 0 59), (59, o_getR [4] 1 62), (62, o_push (vI 0) 63), (63, o_dup2 64), (64, o_xald 13 65), (65, o_push (vI 10) 67), (67, o_ib fAdd 68), (68, o_iast 69)]
abbrev tl_X4_getMore_1 : List (Nat × oOp) := [(69, o_go 89), (72, o_ald 0 73), (73, o_push (vI 0) 74), (74, o_ald 0 75), (75, o_getI [4] 4 78), (78, o_push (vI 1) 79), (79, o_ib fSub 80), (80, o_math2 fMax 0 0 83), (83, o_putI [4] 4 86), (86, o_go 89), (89, o_ret0 0 0)]
set_option maxRecDepth 20000 in
def tb_X4_getMore : Nat → oOp := oTab [(0, o_ild 1 1), (1, o_sw (swT 1 [32, 45, 58, 72] 89)), (32, o_ald 0 33), (33, o_dup 34), (34, o_getI [4] 3 37), (37, o_push (vI 1) 38), (38, o_ib fAdd 39), (39, o_putI [4] 3 42), (42, o_go 89), (45, o_ald 0 46), (46, o_dup 47), (47, o_getI [4] 5 50), (50, o_push (vI 1) 51), (51, o_ib fAdd 52), (52, o_putI [4] 5 55), (55, o_go 89), (58, o_ald 0 59), (59, o_getR [4] 1 62), (62, o_push (vI 0) 63), (63, o_dup2 64), (64, o_xald 13 65), (65, o_push (vI 10) 67), (67, o_ib fAdd 68), (68, o_iast 69), (69, o_go 89), (72, o_ald 0 73), (73, o_push (vI 0) 74), (74, o_ald 0 75), (75, o_getI [4] 4 78), (78, o_push (vI 1) 79), (79, o_ib fSub 80), (80, o_math2 fMax 0 0 83), (83, o_putI [4] 4 86), (86, o_go 89), (89, o_ret0 0 0)]
def T_X4_getMore : List oA → oM → oQ → Prop := oT tb_X4_getMore 2
set_option maxRecDepth 20000 in
theorem sn_X4_getMore_0 {p : Program} {l : Launch} {e : Env} {s : State} {m : MethodId} {args : Array Value} {below : List Frame} {meth : Method} {c : Code} {D : va_G} {ids : Nat → ClassId} {b : Nat} {Q : oQ} (C : oCx p s m args c cX4_getMore 2 (yX4_getMore).cls D ids b) (hr : meth.sig.returnType = none) (hlk : meth.locks = false) (hnm : meth.name = (yX4_getMore).name) : ∀ q ∈ tl_X4_getMore_0, oSn (oW p l e (oRm 1 21 0 0) s m args below meth c 2 D ids b (oMQ D ids b below Q args s 0 0)) Q q.1 q.2 := List.forall_mem_cons.mpr ⟨so_iload_n C 1 rfl dX4_getMore_0, List.forall_mem_cons.mpr ⟨so_table C [32, 45, 58, 72] 89 (by decide) (by decide) (by decide +kernel) (by decide) dX4_getMore_1, List.forall_mem_cons.mpr ⟨so_aload_n C 0 rfl dX4_getMore_32, List.forall_mem_cons.mpr ⟨so_dup C dX4_getMore_33, List.forall_mem_cons.mpr ⟨so_getI C [4] 3 (fd_RX4_52_4 C) (by decide) dX4_getMore_34, List.forall_mem_cons.mpr ⟨so_iconst C 1 rfl dX4_getMore_37, List.forall_mem_cons.mpr ⟨so_iadd C dX4_getMore_38, List.forall_mem_cons.mpr ⟨so_putI C [4] 3 (fd_RX4_52_4 C) (fn_4_3) (by decide) dX4_getMore_39, List.forall_mem_cons.mpr ⟨so_goto C (by decide) dX4_getMore_42, List.forall_mem_cons.mpr ⟨so_aload_n C 0 rfl dX4_getMore_45, List.forall_mem_cons.mpr ⟨so_dup C dX4_getMore_46, List.forall_mem_cons.mpr ⟨so_getI C [4] 5 (fd_RX4_61_4 C) (by decide) dX4_getMore_47, List.forall_mem_cons.mpr ⟨so_iconst C 1 rfl dX4_getMore_50, List.forall_mem_cons.mpr ⟨so_iadd C dX4_getMore_51, List.forall_mem_cons.mpr ⟨so_putI C [4] 5 (fd_RX4_61_4 C) (fn_4_5) (by decide) dX4_getMore_52, List.forall_mem_cons.mpr ⟨so_goto C (by decide) dX4_getMore_55, List.forall_mem_cons.mpr ⟨so_aload_n C 0 rfl dX4_getMore_58, List.forall_mem_cons.mpr ⟨so_getR C [4] 1 (fd_RX4_9_4 C) (ft_4_1) dX4_getMore_59, List.forall_mem_cons.mpr ⟨so_iconst C 0 rfl dX4_getMore_62, List.forall_mem_cons.mpr ⟨so_dup2 C dX4_getMore_63, List.forall_mem_cons.mpr ⟨so_iald C dX4_getMore_64, List.forall_mem_cons.mpr ⟨so_bipush C 10 rfl dX4_getMore_65, List.forall_mem_cons.mpr ⟨so_iadd C dX4_getMore_67, List.forall_mem_cons.mpr ⟨so_iast C dX4_getMore_68, fun _ h => absurd h List.not_mem_nil⟩⟩⟩⟩⟩⟩⟩⟩⟩⟩⟩⟩⟩⟩⟩⟩⟩⟩⟩⟩⟩⟩⟩⟩
set_option maxRecDepth 20000 in
theorem sn_X4_getMore_1 {p : Program} {l : Launch} {e : Env} {s : State} {m : MethodId} {args : Array Value} {below : List Frame} {meth : Method} {c : Code} {D : va_G} {ids : Nat → ClassId} {b : Nat} {Q : oQ} (C : oCx p s m args c cX4_getMore 2 (yX4_getMore).cls D ids b) (hr : meth.sig.returnType = none) (hlk : meth.locks = false) (hnm : meth.name = (yX4_getMore).name) : ∀ q ∈ tl_X4_getMore_1, oSn (oW p l e (oRm 1 21 0 0) s m args below meth c 2 D ids b (oMQ D ids b below Q args s 0 0)) Q q.1 q.2 := List.forall_mem_cons.mpr ⟨so_goto C (by decide) dX4_getMore_69, List.forall_mem_cons.mpr ⟨so_aload_n C 0 rfl dX4_getMore_72, List.forall_mem_cons.mpr ⟨so_iconst C 0 rfl dX4_getMore_73, List.forall_mem_cons.mpr ⟨so_aload_n C 0 rfl dX4_getMore_74, List.forall_mem_cons.mpr ⟨so_getI C [4] 4 (fd_RX4_58_4 C) (by decide) dX4_getMore_75, List.forall_mem_cons.mpr ⟨so_iconst C 1 rfl dX4_getMore_78, List.forall_mem_cons.mpr ⟨so_isub C dX4_getMore_79, List.forall_mem_cons.mpr ⟨so_max C 0 0 ⟨Nat.le_refl _, Nat.le_refl _⟩ kw_789 kw_548 kw_12 kw_549 (by decide) (by decide) dX4_getMore_80, List.forall_mem_cons.mpr ⟨so_putI C [4] 4 (fd_RX4_58_4 C) (fn_4_4) (by decide) dX4_getMore_83, List.forall_mem_cons.mpr ⟨so_goto C (by decide) dX4_getMore_86, List.forall_mem_cons.mpr ⟨so_ret0 C 0 0 hr hlk dX4_getMore_89, fun _ h => absurd h List.not_mem_nil⟩⟩⟩⟩⟩⟩⟩⟩⟩⟩⟩
set_option maxRecDepth 20000 in
theorem c_X4_getMore (l : Launch) (D : va_G) (ids : Nat → ClassId) : oMT l D ids yX4_getMore cX4_getMore 2 none 1 21 0 0 T_X4_getMore := oMet l D ids tb_X4_getMore (by decide) (fun p e s m args below meth c b Q C hr hlk hnm => oTab_all (tl_X4_getMore_0 ++ (tl_X4_getMore_1)) (List.forall_mem_append.mpr ⟨sn_X4_getMore_0 C hr hlk hnm, sn_X4_getMore_1 C hr hlk hnm⟩))
