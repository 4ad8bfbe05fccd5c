theorem oCe_congr {ids : Nat → ClassId} {b : Nat} {mm mm' : oM} {q : Nat} (hk : sK mm'.1 q = sK mm.1 q) (hl : sL mm'.1 q = sL mm.1 q) (hr : sR mm'.1 q = sR mm.1 q) (hi : mm'.2.1 q = mm.2.1 q) (hL : mm'.2.2 q = mm.2.2 q) : oCe ids b mm' q = oCe ids b mm q := by
  have hfv : ∀ c k, oFv b mm' c q k = oFv b mm c q k := by
    intro c k
    simp only [oFv, hr, hi, hL]
  have hfs : ∀ c, oFs b mm' c q = oFs b mm c q := by
    intro c
    simp only [oFs]
    congr 1
    funext k
    exact hfv c k
  simp only [oCe, hk, hl, hr, hi, hfs]
theorem u2_at (I : Nat → Nat → Int) (h k : Nat) (v : Int) : u2 I h k v h k = v := by simp [u2]
theorem u2_k {I : Nat → Nat → Int} {h k j : Nat} {v : Int} (hj : j ≠ k) : u2 I h k v h j = I h j := by simp [u2, hj]
theorem u2_h {I : Nat → Nat → Int} {h k q : Nat} {v : Int} (hq : q ≠ h) : u2 I h k v q = I q := by funext j; simp [u2, hq]
theorem u2L_at (I : Nat → Nat → Int64) (h k : Nat) (v : Int64) : u2L I h k v h k = v := by simp [u2L]
theorem u2L_k {I : Nat → Nat → Int64} {h k j : Nat} {v : Int64} (hj : j ≠ k) : u2L I h k v h j = I h j := by simp [u2L, hj]
theorem u2L_h {I : Nat → Nat → Int64} {h k q : Nat} {v : Int64} (hq : q ≠ h) : u2L I h k v q = I q := by funext j; simp [u2L, hq]
theorem u2R_at (I : Nat → Nat → Option Nat) (h k : Nat) (v : Option Nat) : u2R I h k v h k = v := by simp [u2R]
theorem u2R_k {I : Nat → Nat → Option Nat} {h k j : Nat} {v : Option Nat} (hj : j ≠ k) : u2R I h k v h j = I h j := by simp [u2R, hj]
theorem u2R_h {I : Nat → Nat → Option Nat} {h k q : Nat} {v : Option Nat} (hq : q ≠ h) : u2R I h k v q = I q := by funext j; simp [u2R, hq]
theorem nar_z {v : Int} (h : v = 0 ∨ v = 1) : narrow .boolean (.int (Int32.ofInt v)) = .int (Int32.ofInt v) ∧ fits .boolean (.int (Int32.ofInt v)) = true := by
  rcases h with rfl | rfl <;> exact ⟨by decide, by decide⟩
section SND
variable {p : Program} {l : Launch} {e : Env} {R : Room} {s : State} {m : MethodId} {args : Array Value} {below : List Frame} {meth : Method} {c : Code} {cc : ByteArray} {nL : Nat} {own : String} {D : va_G} {ids : Nat → ClassId} {b : Nat} {Qf : State → Prop} {Q : oQ} {pc : Nat}
/-- the cells behind a written number -/
theorem w_I {mm : oM} {h k : Nat} {v : Int} {q : Nat} (hq : q ≠ h) : oCe ids b (mm.1, u2 mm.2.1 h k v, mm.2.2) q = oCe ids b mm q := oCe_congr rfl rfl rfl (u2_h hq) rfl
theorem w_L {mm : oM} {h k : Nat} {v : Int64} {q : Nat} (hq : q ≠ h) : oCe ids b (mm.1, mm.2.1, u2L mm.2.2 h k v) q = oCe ids b mm q := oCe_congr rfl rfl rfl rfl (u2L_h hq)
theorem w_R {mm : oM} {h k : Nat} {v : Option Nat} {q : Nat} (hq : q ≠ h) : oCe ids b (sPutR mm.1 h k v, mm.2) q = oCe ids b mm q := oCe_congr rfl rfl (u2R_h hq) rfl rfl
theorem w_If {mm : oM} {h k j c : Nat} {v : Int} (hj : j ≠ k) : oFv b (mm.1, u2 mm.2.1 h k v, mm.2.2) c h j = oFv b mm c h j := by simp only [oFv, u2_k hj]
theorem w_Lf {mm : oM} {h k j c : Nat} {v : Int64} (hj : j ≠ k) : oFv b (mm.1, mm.2.1, u2L mm.2.2 h k v) c h j = oFv b mm c h j := by simp only [oFv, u2L_k hj]
theorem w_Rf {mm : oM} {h k j c : Nat} {v : Option Nat} (hj : j ≠ k) : oFv b (sPutR mm.1 h k v, mm.2) c h j = oFv b mm c h j := by
  have : sR (sPutR mm.1 h k v) h j = sR mm.1 h j := u2R_k hj
  simp only [oFv, this]
theorem so_putI (C : oCx p s m args c cc nL own D ids b) {i : Nat} (cs : List Nat) (k : Nat) (hf : ∀ q ∈ cs, oFd s args own i q k) (hfin : ∀ q ∈ cs, ∀ r, vwCl[q]? = some r → (r.2.1 k).2.2.2 = false) (ht : ∀ q ∈ cs, oTy q k = .int) (hd : decode cc pc = .ok (.putfield i, 3)) : oSn (oW p l e R s m args below meth c nL D ids b Qf) Q pc (o_putI cs k (pc + 3)) := by
  intro lv st mm g kk H locs ls h1 h2 h3
  unfold o_putI at kk
  split at kk
  · rename_i v h r
    refine so_putV (mm' := (mm.1, u2 mm.2.1 h k v, mm.2.2)) C cs k hf hfin hd kk.1 ⟨rfl, rfl, rfl⟩ (by rw [ht _ kk.1]; rfl) (by rw [ht _ kk.1]; rfl) ?_ (fun j hj => w_If hj) (fun q hq => w_I hq) h1 h2 (fun H1 locs1 g1 g2 => kk.2 H1 locs1 ls g1 g2 h3)
    simp only [oFv, ht _ kk.1, u2_at]; rfl
  · exact kk.elim
theorem so_putZ (C : oCx p s m args c cc nL own D ids b) {i : Nat} (cs : List Nat) (k : Nat) (hf : ∀ q ∈ cs, oFd s args own i q k) (hfin : ∀ q ∈ cs, ∀ r, vwCl[q]? = some r → (r.2.1 k).2.2.2 = false) (ht : ∀ q ∈ cs, oTy q k = .boolean) (hd : decode cc pc = .ok (.putfield i, 3)) : oSn (oW p l e R s m args below meth c nL D ids b Qf) Q pc (o_putZ cs k (pc + 3)) := by
  intro lv st mm g kk H locs ls h1 h2 h3
  unfold o_putZ at kk
  split at kk
  · rename_i v h r
    refine so_putV (mm' := (mm.1, u2 mm.2.1 h k v, mm.2.2)) C cs k hf hfin hd kk.1.1 ⟨rfl, rfl, rfl⟩ (by rw [ht _ kk.1.1]; exact (nar_z kk.1.2).1) (by rw [ht _ kk.1.1]; exact (nar_z kk.1.2).2) ?_ (fun j hj => w_If hj) (fun q hq => w_I hq) h1 h2 (fun H1 locs1 g1 g2 => kk.2 H1 locs1 ls g1 g2 h3)
    simp only [oFv, ht _ kk.1.1, u2_at]; rfl
  · exact kk.elim
theorem so_putL (C : oCx p s m args c cc nL own D ids b) {i : Nat} (cs : List Nat) (k : Nat) (hf : ∀ q ∈ cs, oFd s args own i q k) (hfin : ∀ q ∈ cs, ∀ r, vwCl[q]? = some r → (r.2.1 k).2.2.2 = false) (ht : ∀ q ∈ cs, oTy q k = .long) (hd : decode cc pc = .ok (.putfield i, 3)) : oSn (oW p l e R s m args below meth c nL D ids b Qf) Q pc (o_putL cs k (pc + 3)) := by
  intro lv st mm g kk H locs ls h1 h2 h3
  unfold o_putL at kk
  split at kk
  · rename_i v h r
    refine so_putV (mm' := (mm.1, mm.2.1, u2L mm.2.2 h k v)) C cs k hf hfin hd kk.1 ⟨rfl, rfl, rfl⟩ (by rw [ht _ kk.1]; rfl) (by rw [ht _ kk.1]; rfl) ?_ (fun j hj => w_Lf hj) (fun q hq => w_L hq) h1 h2 (fun H1 locs1 g1 g2 => kk.2 H1 locs1 ls g1 g2 h3)
    simp only [oFv, ht _ kk.1, u2L_at]; rfl
  · exact kk.elim
theorem rf_nar (b : Nat) (v : Option Nat) (ty : FieldType) (h : (∃ n, ty = .object n) ∨ ∃ n, ty = .array n) : narrow ty (oV b (.inr (.inr (.inl v)))) = oV b (.inr (.inr (.inl v))) ∧ fits ty (oV b (.inr (.inr (.inl v)))) = true := by
  rcases h with ⟨n, rfl⟩ | ⟨n, rfl⟩ <;> cases v <;> exact ⟨rfl, rfl⟩
theorem rf_oV (b : Nat) (v : Option Nat) : va_rf (v.map (b + ·)) = oV b (.inr (.inr (.inl v))) := by cases v <;> rfl
theorem so_putR (C : oCx p s m args c cc nL own D ids b) {i : Nat} (cs : List Nat) (k : Nat) (hf : ∀ q ∈ cs, oFd s args own i q k) (hfin : ∀ q ∈ cs, ∀ r, vwCl[q]? = some r → (r.2.1 k).2.2.2 = false) (ht : ∀ q ∈ cs, (∃ n, oTy q k = .object n) ∨ ∃ n, oTy q k = .array n) (hd : decode cc pc = .ok (.putfield i, 3)) : oSn (oW p l e R s m args below meth c nL D ids b Qf) Q pc (o_putR cs k (pc + 3)) := by
  intro lv st mm g kk H locs ls h1 h2 h3
  unfold o_putR at kk
  split at kk
  · rename_i v h r
    have hn := rf_nar b v _ (ht _ kk.1)
    refine so_putV (mm' := (sPutR mm.1 h k v, mm.2)) C cs k hf hfin hd kk.1 ⟨rfl, rfl, rfl⟩ hn.1 hn.2 ?_ (fun j hj => w_Rf hj) (fun q hq => w_R hq) h1 h2 (fun H1 locs1 g1 g2 => kk.2 H1 locs1 ls g1 g2 h3)
    have hu : sR (sPutR mm.1 h k v) h k = v := u2R_at _ _ _ _
    rcases ht _ kk.1 with ⟨n, z⟩ | ⟨n, z⟩ <;> (simp only [oFv, z, hu]; exact rf_oV b v)
  · exact kk.elim
/-- a final field, in a constructor -/
theorem so_putF (C : oCx p s m args c cc nL own D ids b) (hin2 : meth.name = "<init>") {i : Nat} (q0 : Nat) (k : Nat) (hf : oFd s args own i q0 k) (hfin : ∀ r, vwCl[q0]? = some r → (r.2.1 k).2.2.2 = true ∧ (r.2.1 k).1 = own) (hd : decode cc pc = .ok (.putfield i, 3)) {st : List Value} {mm mm' : oM} {g : Nat × Nat} {h : Nat} {v : Value} (hk : sK mm.1 h = q0) (hs : sN mm'.1 = sN mm.1 ∧ sK mm'.1 = sK mm.1 ∧ sL mm'.1 = sL mm.1) (hn : narrow (oTy q0 k) v = v) (hfit : fits (oTy q0 k) v = true) (hv : oFv b mm' q0 h k = v) (ho : ∀ j, j ≠ k → oFv b mm' q0 h j = oFv b mm q0 h j) (hoo : ∀ q, q ≠ h → oCe ids b mm' q = oCe ids b mm q) {H : Heap} {locs : List Loc} {ls : Array Slot} (h1 : oOK D ids b mm H) (h2 : va_S (fun q => b ≤ q) s.heap H locs) (kk : ∀ (H1 : Heap) (locs1 : List Loc), oOK D ids b mm' H1 → va_S (fun q => b ≤ q) s.heap H1 locs1 → W p l e R s m args below meth c H1 locs1 g.1 g.2 Qf (F0 m (pc + 3) ls st)) : W p l e R s m args below meth c H locs g.1 g.2 Qf (F0 m pc ls (v :: .ref (b + h) :: st)) := by
  obtain ⟨X, T, N, ref, e1, e2, e3, e4, e5, e6, e7, e8, e9⟩ := hf
  have hlt := h1.lt (q := h) (by omega)
  have hw := oWs_at (ids := ids) (b := b) hlt
  rw [oCe_obj hk e4] at hw
  have hsz : ∀ (H1 : Heap), va_P D vwCl ((oWs ids b mm).set h (b + h, .inr (q0, (oFs b mm q0 h).set k v))) H1 → H1.size = H.size → oOK D ids b mm' H1 := by
    intro H1 hP hz
    refine ⟨by rw [hz, h1.1, hs.1], ?_, by rw [hs.1, hs.2.1]; exact h1.2.2.1, by rw [hs.2.2]; exact h1.2.2.2⟩
    rw [oWs_set _ hs.1 (by rw [oCe_obj (by rw [hs.2.1]; exact hk) e4, oFs_set hv ho]) hoo] at hP
    exact hP
  have hap := va_apart (own := own) C.2.2.2.2.1 e5 (oTy q0) e6 e7 C.2.2.2.2.2.1.1 e1
  obtain ⟨r, q00, cell, q1, q2, q3, q4⟩ := h1.2.1 h _ hw
  have hr : r = (X, T, N) := Option.some.inj (q00.symm.trans e1)
  subst hr
  obtain ⟨hS, hfc, kC, hkC, hkind⟩ := C.2.2.2.2.2.1.1.1 _ _ e1
  obtain ⟨cf, kf, fi, f, hi, hsl⟩ := hS k e2
  have hlay := C.2.2.2.2.1 _ (e5 _ (u_in_lay e2))
  unfold u_lay at hlay
  rw [if_pos (hfin _ e1).1] at hlay
  have hst := (u_facts hfc hkC (u_lays C.2.2.2.2.1 e5 e2) hi).1
  have hcf : m.cls = cf := by
    obtain ⟨_, _, c', _, _, _, -, -, hf', -, -, -, hown2, -⟩ := Cond.laysFinal_spec hlay
    have w1 : c' = cf := by have := hi.symm.trans hf'; simp at this; exact this.1.symm
    have w2 : (T k).1 = own := (hfin _ e1).2
    rw [w2] at hown2
    rw [← w1]; exact Option.some.inj (C.2.2.2.1.symm.trans hown2)
  have h6 := u_fits hfc hkC hkind (Or.inr hlay) hi (e6 k e2) hn hfit
  refine W.putFinK C.1 C.2.1 C.2.2.2.1 e8 (e9 _ hi) hst hcf hin2 (by rw [q2]; exact h6) q1 q3 (by rw [hsl]; exact k2_hasslot (q4 k e2)) rfl rfl hd fun H' y1 y2 y3 => ?_
  rw [hsl] at y1 ⊢
  have hD := oWs_D ids b mm
  refine kk H' _ (hsz H' (h1.2.1.set hD hw ⟨_, e1, t_OB.to (V := updV (vp_V (oFs b mm q0 h)) k v) ⟨_, y1, q2, q3, t_set q4 hap e2 v⟩ (fun j _ => vp_updV_set (by rw [oFs_len]; omega) v j)⟩ y3) y2) (h2.put y2 y3 (Nat.le_add_right b h))
theorem so_putFI (C : oCx p s m args c cc nL own D ids b) (hin2 : meth.name = "<init>") {i : Nat} (cs : List Nat) (k : Nat) (hf : ∀ q ∈ cs, oFd s args own i q k) (hfin : ∀ q ∈ cs, ∀ r, vwCl[q]? = some r → (r.2.1 k).2.2.2 = true ∧ (r.2.1 k).1 = own) (ht : ∀ q ∈ cs, oTy q k = .int) (hd : decode cc pc = .ok (.putfield i, 3)) : oSn (oW p l e R s m args below meth c nL D ids b Qf) Q pc (o_putI cs k (pc + 3)) := by
  intro lv st mm g kk H locs ls h1 h2 h3
  unfold o_putI at kk
  split at kk
  · rename_i v h r
    refine so_putF (mm' := (mm.1, u2 mm.2.1 h k v, mm.2.2)) C hin2 (sK mm.1 h) k (hf _ kk.1) (hfin _ kk.1) hd rfl ⟨rfl, rfl, rfl⟩ (by rw [ht _ kk.1]; rfl) (by rw [ht _ kk.1]; rfl) ?_ (fun j hj => w_If hj) (fun q hq => w_I hq) h1 h2 (fun H1 locs1 g1 g2 => kk.2 H1 locs1 ls g1 g2 h3)
    simp only [oFv, ht _ kk.1, u2_at]; rfl
  · exact kk.elim
theorem so_putFR (C : oCx p s m args c cc nL own D ids b) (hin2 : meth.name = "<init>") {i : Nat} (cs : List Nat) (k : Nat) (hf : ∀ q ∈ cs, oFd s args own i q k) (hfin : ∀ q ∈ cs, ∀ r, vwCl[q]? = some r → (r.2.1 k).2.2.2 = true ∧ (r.2.1 k).1 = own) (ht : ∀ q ∈ cs, (∃ n, oTy q k = .object n) ∨ ∃ n, oTy q k = .array n) (hd : decode cc pc = .ok (.putfield i, 3)) : oSn (oW p l e R s m args below meth c nL D ids b Qf) Q pc (o_putR cs k (pc + 3)) := by
  intro lv st mm g kk H locs ls h1 h2 h3
  unfold o_putR at kk
  split at kk
  · rename_i v h r
    have hn := rf_nar b v _ (ht _ kk.1)
    refine so_putF (mm' := (sPutR mm.1 h k v, mm.2)) C hin2 (sK mm.1 h) k (hf _ kk.1) (hfin _ kk.1) hd rfl ⟨rfl, rfl, rfl⟩ hn.1 hn.2 ?_ (fun j hj => w_Rf hj) (fun q hq => w_R hq) h1 h2 (fun H1 locs1 g1 g2 => kk.2 H1 locs1 ls g1 g2 h3)
    have hu : sR (sPutR mm.1 h k v) h k = v := u2R_at _ _ _ _
    rcases ht _ kk.1 with ⟨n, z⟩ | ⟨n, z⟩ <;> (simp only [oFv, z, hu]; exact rf_oV b v)
  · exact kk.elim
end SND
