/-! the script: an array outside of the cells -/
def o_slen (a n : Nat) (nx : Nat) : oOp := fun lv st mm g K _ => match st with
  | .inr (.inr (.inr x)) :: r => x = a ∧ K nx lv (.inl (n : Int) :: r) mm g
  | _ => False
def o_sld (a n : Nat) (xs : Nat → Int32) (nx : Nat) : oOp := fun lv st mm g K _ => match st with
  | .inl i :: .inr (.inr (.inr x)) :: r => (x = a ∧ 0 ≤ i ∧ i < (n : Int)) ∧ K nx lv (.inl (xs i.toNat).toInt :: r) mm g
  | _ => False
section SND
variable {p : Program} {l : Launch} {e : Env} {R : Room} {s : State} {m : MethodId} {args : Array Value} {below : List Frame} {meth : Method} {c : Code} {cc : ByteArray} {nL : Nat} {own : String} {D : va_G} {ids : Nat → ClassId} {b : Nat} {Qf : State → Prop} {Q : oQ} {pc : Nat}
theorem so_slen (C : oCx p s m args c cc nL own D ids b) {a n : Nat} {xs : Nat → Int32} (hX : va_X a n xs s s.heap) (hal : a < s.heap.size) (hab : a < b) (hd : decode cc pc = .ok (.arraylength, 1)) : oSn (oW p l e R s m args below meth c nL D ids b Qf) Q pc (o_slen a n (pc + 1)) := by
  intro lv st mm g kk H locs ls h1 h2 h3
  unfold o_slen at kk
  split at kk
  · rename_i x r
    obtain ⟨rfl, kk⟩ := kk
    have k2 := kk H locs ls h1 h2 h3
    have hz : (oV b (.inl (n : Int))) = .int (Int32.ofNat n) := by simp only [oV, on_nat]
    rw [List.map_cons, hz] at k2
    exact va_slen C.1 C.2.1 hX hal (show ¬ b ≤ x by omega) h2 hd k2
  · exact kk.elim
theorem so_sld (C : oCx p s m args c cc nL own D ids b) {a n : Nat} {xs : Nat → Int32} (hX : va_X a n xs s s.heap) (hal : a < s.heap.size) (hab : a < b) (hn : n ≤ 65536) (hd : decode cc pc = .ok (.iaload, 1)) : oSn (oW p l e R s m args below meth c nL D ids b Qf) Q pc (o_sld a n xs (pc + 1)) := by
  intro lv st mm g kk H locs ls h1 h2 h3
  unfold o_sld at kk
  split at kk
  · rename_i i x r
    obtain ⟨⟨rfl, i0, i1⟩, kk⟩ := kk
    have k2 := kk H locs ls h1 h2 h3
    have hz : (oV b (.inl (xs i.toNat).toInt)) = .int (xs (Int32.ofInt i).toNatClampNeg) := by
      rw [on_cl i0 (by omega)]
      simp only [oV, on_o]
    rw [List.map_cons, hz] at k2
    exact va_sld C.1 C.2.1 hX hal (show ¬ b ≤ x by omega) h2 (on_in i0 i1 hn) hd k2
  · exact kk.elim
end SND
