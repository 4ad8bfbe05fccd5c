def fAnd (x y : Int) : Int := (Int32.ofInt x &&& Int32.ofInt y).toInt
def fOr (x y : Int) : Int := (Int32.ofInt x ||| Int32.ofInt y).toInt
def fXor (x y : Int) : Int := (Int32.ofInt x ^^^ Int32.ofInt y).toInt
def fShl (x y : Int) : Int := (Int32.ofInt x <<< (Int32.ofInt y &&& 31)).toInt
def fShr (x y : Int) : Int := (Int32.ofInt x >>> (Int32.ofInt y &&& 31)).toInt
def fAdd (x y : Int) : Int := x + y
def fSub (x y : Int) : Int := x - y
def fMul (x y : Int) : Int := x * y
def gAdd (x y : Int64) : Int64 := x + y
def gMul (x y : Int64) : Int64 := x * y
def gAnd (x y : Int64) : Int64 := x &&& y
def gOr (x y : Int64) : Int64 := x ||| y
def gDiv (x y : Int64) : Int64 := x / y
def gRem (x y : Int64) : Int64 := x - x / y * y
def gShl (x : Int64) (y : Int32) : Int64 := x <<< (y.toInt64 &&& 63)
def gShr (x : Int64) (y : Int32) : Int64 := x >>> (y.toInt64 &&& 63)
def gUshr (x : Int64) (y : Int32) : Int64 := (x.toUInt64 >>> (y.toInt64.toUInt64 &&& Int64.toUInt64 63)).toInt64
def pEq (x y : Int) : Prop := x = y
def pNe (x y : Int) : Prop := ¬ x = y
def pLt (x y : Int) : Prop := x < y
def pGe (x y : Int) : Prop := y ≤ x
def pGt (x y : Int) : Prop := y < x
def pLe (x y : Int) : Prop := x ≤ y
def zEq (x : Int) : Prop := x = 0
def zNe (x : Int) : Prop := ¬ x = 0
def zLt (x : Int) : Prop := x < 0
def zGe (x : Int) : Prop := 0 ≤ x
def zGt (x : Int) : Prop := 0 < x
def zLe (x : Int) : Prop := x ≤ 0
theorem on_o (x : Int32) : Int32.ofInt x.toInt = x := Int32.ofInt_toInt x
section SND
variable {p : Program} {l : Launch} {e : Env} {R : Room} {s : State} {m : MethodId} {args : Array Value} {below : List Frame} {meth : Method} {c : Code} {cc : ByteArray} {nL : Nat} {own : String} {D : va_G} {ids : Nat → ClassId} {b : Nat} {Qf : State → Prop} {Q : oQ} {pc : Nat}
theorem so_iadd (C : oCx p s m args c cc nL own D ids b) (hd : decode cc pc = .ok (.iadd, 1)) : oSn (oW p l e R s m args below meth c nL D ids b Qf) Q pc (o_ib fAdd (pc + 1)) := by
  intro lv st mm g k H locs ls h1 h2 h3
  unfold o_ib at k
  split at k
  · rename_i y x r
    have k2 := k H locs ls h1 h2 h3
    simp only [List.map_cons, oV, fAdd, on_add] at k2
    exact lv_iadd C.1 C.2.1 hd k2
  · exact k.elim
theorem so_isub (C : oCx p s m args c cc nL own D ids b) (hd : decode cc pc = .ok (.isub, 1)) : oSn (oW p l e R s m args below meth c nL D ids b Qf) Q pc (o_ib fSub (pc + 1)) := by
  intro lv st mm g k H locs ls h1 h2 h3
  unfold o_ib at k
  split at k
  · rename_i y x r
    have k2 := k H locs ls h1 h2 h3
    simp only [List.map_cons, oV, fSub, on_sub] at k2
    exact lv_isub C.1 C.2.1 hd k2
  · exact k.elim
theorem so_imul (C : oCx p s m args c cc nL own D ids b) (hd : decode cc pc = .ok (.imul, 1)) : oSn (oW p l e R s m args below meth c nL D ids b Qf) Q pc (o_ib fMul (pc + 1)) := by
  intro lv st mm g k H locs ls h1 h2 h3
  unfold o_ib at k
  split at k
  · rename_i y x r
    have k2 := k H locs ls h1 h2 h3
    simp only [List.map_cons, oV, fMul, on_mul] at k2
    exact lv_imul C.1 C.2.1 hd k2
  · exact k.elim
theorem so_iand (C : oCx p s m args c cc nL own D ids b) (hd : decode cc pc = .ok (.iand, 1)) : oSn (oW p l e R s m args below meth c nL D ids b Qf) Q pc (o_ib fAnd (pc + 1)) := by
  intro lv st mm g k H locs ls h1 h2 h3
  unfold o_ib at k
  split at k
  · rename_i y x r
    have k2 := k H locs ls h1 h2 h3
    simp only [List.map_cons, oV, fAnd, on_o] at k2
    exact lv_iand C.1 C.2.1 hd k2
  · exact k.elim
theorem so_ior (C : oCx p s m args c cc nL own D ids b) (hd : decode cc pc = .ok (.ior, 1)) : oSn (oW p l e R s m args below meth c nL D ids b Qf) Q pc (o_ib fOr (pc + 1)) := by
  intro lv st mm g k H locs ls h1 h2 h3
  unfold o_ib at k
  split at k
  · rename_i y x r
    have k2 := k H locs ls h1 h2 h3
    simp only [List.map_cons, oV, fOr, on_o] at k2
    exact lv_ior C.1 C.2.1 hd k2
  · exact k.elim
theorem so_ixor (C : oCx p s m args c cc nL own D ids b) (hd : decode cc pc = .ok (.ixor, 1)) : oSn (oW p l e R s m args below meth c nL D ids b Qf) Q pc (o_ib fXor (pc + 1)) := by
  intro lv st mm g k H locs ls h1 h2 h3
  unfold o_ib at k
  split at k
  · rename_i y x r
    have k2 := k H locs ls h1 h2 h3
    simp only [List.map_cons, oV, fXor, on_o] at k2
    exact lv_ixor C.1 C.2.1 hd k2
  · exact k.elim
theorem so_ishl (C : oCx p s m args c cc nL own D ids b) (hd : decode cc pc = .ok (.ishl, 1)) : oSn (oW p l e R s m args below meth c nL D ids b Qf) Q pc (o_ib fShl (pc + 1)) := by
  intro lv st mm g k H locs ls h1 h2 h3
  unfold o_ib at k
  split at k
  · rename_i y x r
    have k2 := k H locs ls h1 h2 h3
    simp only [List.map_cons, oV, fShl, on_o] at k2
    exact lv_ishl C.1 C.2.1 hd k2
  · exact k.elim
theorem so_ishr (C : oCx p s m args c cc nL own D ids b) (hd : decode cc pc = .ok (.ishr, 1)) : oSn (oW p l e R s m args below meth c nL D ids b Qf) Q pc (o_ib fShr (pc + 1)) := by
  intro lv st mm g k H locs ls h1 h2 h3
  unfold o_ib at k
  split at k
  · rename_i y x r
    have k2 := k H locs ls h1 h2 h3
    simp only [List.map_cons, oV, fShr, on_o] at k2
    exact lv_ishr C.1 C.2.1 hd k2
  · exact k.elim
theorem so_idiv (C : oCx p s m args c cc nL own D ids b) (hd : decode cc pc = .ok (.idiv, 1)) : oSn (oW p l e R s m args below meth c nL D ids b Qf) Q pc (o_div (pc + 1)) := by
  intro lv st mm g k H locs ls h1 h2 h3
  unfold o_div at k
  split at k
  · rename_i y x r
    have k2 := k.2 H locs ls h1 h2 h3
    simp only [List.map_cons, oV] at k2
    rw [on_div k.1.1 k.1.2.1 k.1.2.2] at k2
    exact lv_idiv C.1 C.2.1 hd (fun h => by rw [on_0, on_eq k.1.2.1 on_r0] at h; omega) k2
  · exact k.elim
theorem so_irem (C : oCx p s m args c cc nL own D ids b) (hd : decode cc pc = .ok (.irem, 1)) : oSn (oW p l e R s m args below meth c nL D ids b Qf) Q pc (o_rem (pc + 1)) := by
  intro lv st mm g k H locs ls h1 h2 h3
  unfold o_rem at k
  split at k
  · rename_i y x r
    have k2 := k.2 H locs ls h1 h2 h3
    simp only [List.map_cons, oV] at k2
    rw [on_rem k.1.1 k.1.2.1 k.1.2.2] at k2
    exact lv_irem C.1 C.2.1 hd (fun h => by rw [on_0, on_eq k.1.2.1 on_r0] at h; omega) k2
  · exact k.elim
theorem so_ineg (C : oCx p s m args c cc nL own D ids b) (hd : decode cc pc = .ok (.ineg, 1)) : oSn (oW p l e R s m args below meth c nL D ids b Qf) Q pc (o_neg (pc + 1)) := by
  intro lv st mm g k H locs ls h1 h2 h3
  unfold o_neg at k
  split at k
  · have k2 := k H locs ls h1 h2 h3
    simp only [List.map_cons, oV, on_neg] at k2
    exact lv_ineg C.1 C.2.1 hd k2
  · exact k.elim
theorem so_ladd (C : oCx p s m args c cc nL own D ids b) (hd : decode cc pc = .ok (.ladd, 1)) : oSn (oW p l e R s m args below meth c nL D ids b Qf) Q pc (o_lb gAdd (pc + 1)) := by
  intro lv st mm g k H locs ls h1 h2 h3
  unfold o_lb at k
  split at k
  · exact lv_ladd C.1 C.2.1 hd (k H locs ls h1 h2 h3)
  · exact k.elim
theorem so_lmul (C : oCx p s m args c cc nL own D ids b) (hd : decode cc pc = .ok (.lmul, 1)) : oSn (oW p l e R s m args below meth c nL D ids b Qf) Q pc (o_lb gMul (pc + 1)) := by
  intro lv st mm g k H locs ls h1 h2 h3
  unfold o_lb at k
  split at k
  · exact lv_lmul C.1 C.2.1 hd (k H locs ls h1 h2 h3)
  · exact k.elim
theorem so_land (C : oCx p s m args c cc nL own D ids b) (hd : decode cc pc = .ok (.land, 1)) : oSn (oW p l e R s m args below meth c nL D ids b Qf) Q pc (o_lb gAnd (pc + 1)) := by
  intro lv st mm g k H locs ls h1 h2 h3
  unfold o_lb at k
  split at k
  · exact lv_land C.1 C.2.1 hd (k H locs ls h1 h2 h3)
  · exact k.elim
theorem so_lor (C : oCx p s m args c cc nL own D ids b) (hd : decode cc pc = .ok (.lor, 1)) : oSn (oW p l e R s m args below meth c nL D ids b Qf) Q pc (o_lb gOr (pc + 1)) := by
  intro lv st mm g k H locs ls h1 h2 h3
  unfold o_lb at k
  split at k
  · exact lv_lor C.1 C.2.1 hd (k H locs ls h1 h2 h3)
  · exact k.elim
theorem so_ldiv (C : oCx p s m args c cc nL own D ids b) (hd : decode cc pc = .ok (.ldiv, 1)) : oSn (oW p l e R s m args below meth c nL D ids b Qf) Q pc (o_lbz gDiv (pc + 1)) := by
  intro lv st mm g k H locs ls h1 h2 h3
  unfold o_lbz at k
  split at k
  · exact lv_ldiv C.1 C.2.1 hd k.1 (k.2 H locs ls h1 h2 h3)
  · exact k.elim
theorem so_lrem (C : oCx p s m args c cc nL own D ids b) (hd : decode cc pc = .ok (.lrem, 1)) : oSn (oW p l e R s m args below meth c nL D ids b Qf) Q pc (o_lbz gRem (pc + 1)) := by
  intro lv st mm g k H locs ls h1 h2 h3
  unfold o_lbz at k
  split at k
  · exact lv_lrem C.1 C.2.1 hd k.1 (k.2 H locs ls h1 h2 h3)
  · exact k.elim
theorem so_lshl (C : oCx p s m args c cc nL own D ids b) (hd : decode cc pc = .ok (.lshl, 1)) : oSn (oW p l e R s m args below meth c nL D ids b Qf) Q pc (o_lsh gShl (pc + 1)) := by
  intro lv st mm g k H locs ls h1 h2 h3
  unfold o_lsh at k
  split at k
  · exact lv_lshl C.1 C.2.1 hd rfl (k H locs ls h1 h2 h3)
  · exact k.elim
theorem so_lshr (C : oCx p s m args c cc nL own D ids b) (hd : decode cc pc = .ok (.lshr, 1)) : oSn (oW p l e R s m args below meth c nL D ids b Qf) Q pc (o_lsh gShr (pc + 1)) := by
  intro lv st mm g k H locs ls h1 h2 h3
  unfold o_lsh at k
  split at k
  · exact lv_lshr C.1 C.2.1 hd rfl (k H locs ls h1 h2 h3)
  · exact k.elim
theorem so_lushr (C : oCx p s m args c cc nL own D ids b) (hd : decode cc pc = .ok (.lushr, 1)) : oSn (oW p l e R s m args below meth c nL D ids b Qf) Q pc (o_lsh gUshr (pc + 1)) := by
  intro lv st mm g k H locs ls h1 h2 h3
  unfold o_lsh at k
  split at k
  · exact lv_lushr C.1 C.2.1 hd rfl (k H locs ls h1 h2 h3)
  · exact k.elim
theorem so_lcmp (C : oCx p s m args c cc nL own D ids b) (hd : decode cc pc = .ok (.lcmp, 1)) : oSn (oW p l e R s m args below meth c nL D ids b Qf) Q pc (o_lcmp (pc + 1)) := by
  intro lv st mm g k H locs ls h1 h2 h3
  unfold o_lcmp at k
  split at k
  · have k2 := k H locs ls h1 h2 h3
    simp only [List.map_cons, oV, on_o] at k2
    exact W.lcmp C.1 C.2.1 hd k2
  · exact k.elim
theorem so_i2l (C : oCx p s m args c cc nL own D ids b) (hd : decode cc pc = .ok (.i2l, 1)) : oSn (oW p l e R s m args below meth c nL D ids b Qf) Q pc (o_i2l (pc + 1)) := by
  intro lv st mm g k H locs ls h1 h2 h3
  unfold o_i2l at k
  split at k
  · exact lv_i2l C.1 C.2.1 hd rfl (k H locs ls h1 h2 h3)
  · exact k.elim
theorem so_l2i (C : oCx p s m args c cc nL own D ids b) (hd : decode cc pc = .ok (.l2i, 1)) : oSn (oW p l e R s m args below meth c nL D ids b Qf) Q pc (o_l2i (pc + 1)) := by
  intro lv st mm g k H locs ls h1 h2 h3
  unfold o_l2i at k
  split at k
  · have k2 := k H locs ls h1 h2 h3
    simp only [List.map_cons, oV, on_o] at k2
    exact lv_l2i C.1 C.2.1 hd rfl k2
  · exact k.elim
theorem so_i2b (C : oCx p s m args c cc nL own D ids b) (hd : decode cc pc = .ok (.i2b, 1)) : oSn (oW p l e R s m args below meth c nL D ids b Qf) Q pc (o_i2b (pc + 1)) := by
  intro lv st mm g k H locs ls h1 h2 h3
  unfold o_i2b at k
  split at k
  · exact lv_i2b C.1 C.2.1 hd rfl (k H locs ls h1 h2 h3)
  · exact k.elim
theorem so_dup (C : oCx p s m args c cc nL own D ids b) (hd : decode cc pc = .ok (.dup, 1)) : oSn (oW p l e R s m args below meth c nL D ids b Qf) Q pc (o_dup (pc + 1)) := by
  intro lv st mm g k H locs ls h1 h2 h3
  unfold o_dup at k
  split at k
  · exact lv_dup C.1 C.2.1 hd rfl (k H locs ls h1 h2 h3)
  · rename_i x r
    match x, k with
    | .inl none, k => exact lv_dup C.1 C.2.1 hd rfl (k H locs ls h1 h2 h3)
    | .inl (some a), k => exact lv_dup C.1 C.2.1 hd rfl (k H locs ls h1 h2 h3)
    | .inr a, k => exact lv_dup C.1 C.2.1 hd rfl (k H locs ls h1 h2 h3)
  · exact k.elim
theorem so_dup2 (C : oCx p s m args c cc nL own D ids b) (hd : decode cc pc = .ok (.dup2, 1)) : oSn (oW p l e R s m args below meth c nL D ids b Qf) Q pc (o_dup2 (pc + 1)) := by
  intro lv st mm g k H locs ls h1 h2 h3
  unfold o_dup2 at k
  split at k
  · rename_i x y r
    match y, k with
    | .inl none, k => exact lv_dup2_11 C.1 C.2.1 hd rfl rfl (k H locs ls h1 h2 h3)
    | .inl (some a), k => exact lv_dup2_11 C.1 C.2.1 hd rfl rfl (k H locs ls h1 h2 h3)
    | .inr a, k => exact lv_dup2_11 C.1 C.2.1 hd rfl rfl (k H locs ls h1 h2 h3)
  · exact k.elim
theorem so_pop (C : oCx p s m args c cc nL own D ids b) (hd : decode cc pc = .ok (.pop, 1)) : oSn (oW p l e R s m args below meth c nL D ids b Qf) Q pc (o_pop (pc + 1)) := by
  intro lv st mm g k H locs ls h1 h2 h3
  unfold o_pop at k
  split at k
  · exact lv_pop C.1 C.2.1 hd rfl (k H locs ls h1 h2 h3)
  · rename_i x r
    match x, k with
    | .inl none, k => exact lv_pop C.1 C.2.1 hd rfl (k H locs ls h1 h2 h3)
    | .inl (some a), k => exact lv_pop C.1 C.2.1 hd rfl (k H locs ls h1 h2 h3)
    | .inr a, k => exact lv_pop C.1 C.2.1 hd rfl (k H locs ls h1 h2 h3)
  · exact k.elim
theorem so_goto (C : oCx p s m args c cc nL own D ids b) {off : Int} {tgt : Nat} (ht : (pc : Int) + off = (tgt : Int)) (hd : decode cc pc = .ok (.goto off, 3)) : oSn (oW p l e R s m args below meth c nL D ids b Qf) Q pc (o_go tgt) :=
  fun lv st mm g k H locs ls h1 h2 h3 => lv_goto C.1 C.2.1 hd ht (k H locs ls h1 h2 h3)
theorem so_ifnull (C : oCx p s m args c cc nL own D ids b) {off : Int} {tgt : Nat} (ht : (pc : Int) + off = (tgt : Int)) (hd : decode cc pc = .ok (.ifnull off, 3)) : oSn (oW p l e R s m args below meth c nL D ids b Qf) Q pc (o_nul tgt (pc + 3)) := by
  intro lv st mm g k H locs ls h1 h2 h3
  unfold o_nul at k
  split at k
  · exact lv_ifnullN C.1 C.2.1 hd ht (k H locs ls h1 h2 h3)
  · exact lv_ifnull C.1 C.2.1 hd (k H locs ls h1 h2 h3)
  · exact k.elim
theorem so_ifnonnull (C : oCx p s m args c cc nL own D ids b) {off : Int} {tgt : Nat} (ht : (pc : Int) + off = (tgt : Int)) (hd : decode cc pc = .ok (.ifnonnull off, 3)) : oSn (oW p l e R s m args below meth c nL D ids b Qf) Q pc (o_nul (pc + 3) tgt) := by
  intro lv st mm g k H locs ls h1 h2 h3
  unfold o_nul at k
  split at k
  · exact lv_ifnonnullN C.1 C.2.1 hd (k H locs ls h1 h2 h3)
  · exact lv_ifnonnull C.1 C.2.1 hd ht (k H locs ls h1 h2 h3)
  · exact k.elim
theorem so_if_eq (C : oCx p s m args c cc nL own D ids b) {off : Int} {tgt : Nat} (ht : (pc : Int) + off = (tgt : Int)) (hd : decode cc pc = .ok (.ifCond .eq off, 3)) : oSn (oW p l e R s m args below meth c nL D ids b Qf) Q pc (o_if zEq tgt (pc + 3)) := by
  intro lv st mm g k H locs ls h1 h2 h3
  unfold o_if at k
  split at k
  · rename_i x r
    obtain ⟨hx, kt, kf⟩ := k
    have hz := on_eq hx on_r0
    exact lv_if_eq C.1 C.2.1 hd ht (fun q => kt (hz.mp q) H locs ls h1 h2 h3) (fun q => kf (fun q2 => q (hz.mpr q2)) H locs ls h1 h2 h3)
  · exact k.elim
theorem so_ic_eq (C : oCx p s m args c cc nL own D ids b) {off : Int} {tgt : Nat} (ht : (pc : Int) + off = (tgt : Int)) (hd : decode cc pc = .ok (.if_icmp .eq off, 3)) : oSn (oW p l e R s m args below meth c nL D ids b Qf) Q pc (o_ic pEq tgt (pc + 3)) := by
  intro lv st mm g k H locs ls h1 h2 h3
  unfold o_ic at k
  split at k
  · rename_i y x r
    obtain ⟨⟨hx, hy⟩, kt, kf⟩ := k
    have hz := on_eq hx hy
    exact lv_icmp_eq C.1 C.2.1 hd ht (fun q => kt (hz.mp q) H locs ls h1 h2 h3) (fun q => kf (fun q2 => q (hz.mpr q2)) H locs ls h1 h2 h3)
  · exact k.elim
theorem so_if_ne (C : oCx p s m args c cc nL own D ids b) {off : Int} {tgt : Nat} (ht : (pc : Int) + off = (tgt : Int)) (hd : decode cc pc = .ok (.ifCond .ne off, 3)) : oSn (oW p l e R s m args below meth c nL D ids b Qf) Q pc (o_if zNe tgt (pc + 3)) := by
  intro lv st mm g k H locs ls h1 h2 h3
  unfold o_if at k
  split at k
  · rename_i x r
    obtain ⟨hx, kt, kf⟩ := k
    have hz := not_congr (on_eq hx on_r0)
    exact lv_if_ne C.1 C.2.1 hd ht (fun q => kt (hz.mp q) H locs ls h1 h2 h3) (fun q => kf (fun q2 => hz.mpr q2 q) H locs ls h1 h2 h3)
  · exact k.elim
theorem so_ic_ne (C : oCx p s m args c cc nL own D ids b) {off : Int} {tgt : Nat} (ht : (pc : Int) + off = (tgt : Int)) (hd : decode cc pc = .ok (.if_icmp .ne off, 3)) : oSn (oW p l e R s m args below meth c nL D ids b Qf) Q pc (o_ic pNe tgt (pc + 3)) := by
  intro lv st mm g k H locs ls h1 h2 h3
  unfold o_ic at k
  split at k
  · rename_i y x r
    obtain ⟨⟨hx, hy⟩, kt, kf⟩ := k
    have hz := not_congr (on_eq hx hy)
    exact lv_icmp_ne C.1 C.2.1 hd ht (fun q => kt (hz.mp q) H locs ls h1 h2 h3) (fun q => kf (fun q2 => hz.mpr q2 q) H locs ls h1 h2 h3)
  · exact k.elim
theorem so_if_lt (C : oCx p s m args c cc nL own D ids b) {off : Int} {tgt : Nat} (ht : (pc : Int) + off = (tgt : Int)) (hd : decode cc pc = .ok (.ifCond .lt off, 3)) : oSn (oW p l e R s m args below meth c nL D ids b Qf) Q pc (o_if zLt tgt (pc + 3)) := by
  intro lv st mm g k H locs ls h1 h2 h3
  unfold o_if at k
  split at k
  · rename_i x r
    obtain ⟨hx, kt, kf⟩ := k
    have hz := on_lt hx on_r0
    exact lv_if_lt C.1 C.2.1 hd ht (fun q => kt (hz.mp q) H locs ls h1 h2 h3) (fun q => kf (fun q2 => q (hz.mpr q2)) H locs ls h1 h2 h3)
  · exact k.elim
theorem so_ic_lt (C : oCx p s m args c cc nL own D ids b) {off : Int} {tgt : Nat} (ht : (pc : Int) + off = (tgt : Int)) (hd : decode cc pc = .ok (.if_icmp .lt off, 3)) : oSn (oW p l e R s m args below meth c nL D ids b Qf) Q pc (o_ic pLt tgt (pc + 3)) := by
  intro lv st mm g k H locs ls h1 h2 h3
  unfold o_ic at k
  split at k
  · rename_i y x r
    obtain ⟨⟨hx, hy⟩, kt, kf⟩ := k
    have hz := on_lt hx hy
    exact lv_icmp_lt C.1 C.2.1 hd ht (fun q => kt (hz.mp q) H locs ls h1 h2 h3) (fun q => kf (fun q2 => q (hz.mpr q2)) H locs ls h1 h2 h3)
  · exact k.elim
theorem so_if_ge (C : oCx p s m args c cc nL own D ids b) {off : Int} {tgt : Nat} (ht : (pc : Int) + off = (tgt : Int)) (hd : decode cc pc = .ok (.ifCond .ge off, 3)) : oSn (oW p l e R s m args below meth c nL D ids b Qf) Q pc (o_if zGe tgt (pc + 3)) := by
  intro lv st mm g k H locs ls h1 h2 h3
  unfold o_if at k
  split at k
  · rename_i x r
    obtain ⟨hx, kt, kf⟩ := k
    have hz := on_le on_r0 hx
    exact lv_if_ge C.1 C.2.1 hd ht (fun q => kt (hz.mp q) H locs ls h1 h2 h3) (fun q => kf (fun q2 => q (hz.mpr q2)) H locs ls h1 h2 h3)
  · exact k.elim
theorem so_ic_ge (C : oCx p s m args c cc nL own D ids b) {off : Int} {tgt : Nat} (ht : (pc : Int) + off = (tgt : Int)) (hd : decode cc pc = .ok (.if_icmp .ge off, 3)) : oSn (oW p l e R s m args below meth c nL D ids b Qf) Q pc (o_ic pGe tgt (pc + 3)) := by
  intro lv st mm g k H locs ls h1 h2 h3
  unfold o_ic at k
  split at k
  · rename_i y x r
    obtain ⟨⟨hx, hy⟩, kt, kf⟩ := k
    have hz := on_le hy hx
    exact lv_icmp_ge C.1 C.2.1 hd ht (fun q => kt (hz.mp q) H locs ls h1 h2 h3) (fun q => kf (fun q2 => q (hz.mpr q2)) H locs ls h1 h2 h3)
  · exact k.elim
theorem so_if_gt (C : oCx p s m args c cc nL own D ids b) {off : Int} {tgt : Nat} (ht : (pc : Int) + off = (tgt : Int)) (hd : decode cc pc = .ok (.ifCond .gt off, 3)) : oSn (oW p l e R s m args below meth c nL D ids b Qf) Q pc (o_if zGt tgt (pc + 3)) := by
  intro lv st mm g k H locs ls h1 h2 h3
  unfold o_if at k
  split at k
  · rename_i x r
    obtain ⟨hx, kt, kf⟩ := k
    have hz := on_lt on_r0 hx
    exact lv_if_gt C.1 C.2.1 hd ht (fun q => kt (hz.mp q) H locs ls h1 h2 h3) (fun q => kf (fun q2 => q (hz.mpr q2)) H locs ls h1 h2 h3)
  · exact k.elim
theorem so_ic_gt (C : oCx p s m args c cc nL own D ids b) {off : Int} {tgt : Nat} (ht : (pc : Int) + off = (tgt : Int)) (hd : decode cc pc = .ok (.if_icmp .gt off, 3)) : oSn (oW p l e R s m args below meth c nL D ids b Qf) Q pc (o_ic pGt tgt (pc + 3)) := by
  intro lv st mm g k H locs ls h1 h2 h3
  unfold o_ic at k
  split at k
  · rename_i y x r
    obtain ⟨⟨hx, hy⟩, kt, kf⟩ := k
    have hz := on_lt hy hx
    exact lv_icmp_gt C.1 C.2.1 hd ht (fun q => kt (hz.mp q) H locs ls h1 h2 h3) (fun q => kf (fun q2 => q (hz.mpr q2)) H locs ls h1 h2 h3)
  · exact k.elim
theorem so_if_le (C : oCx p s m args c cc nL own D ids b) {off : Int} {tgt : Nat} (ht : (pc : Int) + off = (tgt : Int)) (hd : decode cc pc = .ok (.ifCond .le off, 3)) : oSn (oW p l e R s m args below meth c nL D ids b Qf) Q pc (o_if zLe tgt (pc + 3)) := by
  intro lv st mm g k H locs ls h1 h2 h3
  unfold o_if at k
  split at k
  · rename_i x r
    obtain ⟨hx, kt, kf⟩ := k
    have hz := on_le hx on_r0
    exact lv_if_le C.1 C.2.1 hd ht (fun q => kt (hz.mp q) H locs ls h1 h2 h3) (fun q => kf (fun q2 => q (hz.mpr q2)) H locs ls h1 h2 h3)
  · exact k.elim
theorem so_ic_le (C : oCx p s m args c cc nL own D ids b) {off : Int} {tgt : Nat} (ht : (pc : Int) + off = (tgt : Int)) (hd : decode cc pc = .ok (.if_icmp .le off, 3)) : oSn (oW p l e R s m args below meth c nL D ids b Qf) Q pc (o_ic pLe tgt (pc + 3)) := by
  intro lv st mm g k H locs ls h1 h2 h3
  unfold o_ic at k
  split at k
  · rename_i y x r
    obtain ⟨⟨hx, hy⟩, kt, kf⟩ := k
    have hz := on_le hx hy
    exact lv_icmp_le C.1 C.2.1 hd ht (fun q => kt (hz.mp q) H locs ls h1 h2 h3) (fun q => kf (fun q2 => q (hz.mpr q2)) H locs ls h1 h2 h3)
  · exact k.elim
end SND
