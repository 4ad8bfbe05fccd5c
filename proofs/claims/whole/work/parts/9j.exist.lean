/-! what a method of the reference comes to, if it does not hang upon its memory -/
def oGd (o : oOp) : Prop := ∀ (p : Prop) lv st mm g, o lv st mm g (fun _ _ _ _ _ => p) (fun _ _ => p) → p
def allG : List (Nat × oOp) → Prop
  | [] => True
  | q :: l => oGd q.2 ∧ allG l
theorem oTab_gd {p : Prop} {pc : Nat} {lv : oLV} {st : List oA} {mm : oM} {g : Nat × Nat} : ∀ l : List (Nat × oOp), allG l → oTab l pc lv st mm g (fun _ _ _ _ _ => p) (fun _ _ => p) → p
  | [], _, h => h.elim
  | q :: l, a, h => by
    cases hb : Nat.beq q.1 pc with
    | true =>
      have e : oTab (q :: l) pc = q.2 := by
        show (match Nat.beq q.1 pc with | true => q.2 | false => oTab l pc) = q.2
        rw [hb]
      rw [e] at h
      exact a.1 _ _ _ _ _ h
    | false =>
      have e : oTab (q :: l) pc = oTab l pc := by
        show (match Nat.beq q.1 pc with | true => q.2 | false => oTab l pc) = oTab l pc
        rw [hb]
      rw [e] at h
      exact oTab_gd l a.2 h
theorem oT_p {l : List (Nat × oOp)} {nL : Nat} (h : allG l) : ∀ (p : Prop) av mm, oT (oTab l) nL av mm (fun _ _ => p) → p := fun p av mm t => t.2 (fun _ _ _ _ _ => p) ⟨fun _ _ _ _ _ x => oTab_gd l h x, fun _ _ _ _ _ _ x => x⟩
theorem go_ald {i nx : Nat} : oGd (o_ald i nx) := fun p lv st mm g h => by
  unfold o_ald at h
  split at h <;> first | exact h.elim | exact h.2 | exact h
theorem go_dup {nx : Nat} : oGd (o_dup nx) := fun p lv st mm g h => by
  unfold o_dup at h
  split at h <;> first | exact h.elim | exact h.2 | exact h
theorem go_dup2 {nx : Nat} : oGd (o_dup2 nx) := fun p lv st mm g h => by
  unfold o_dup2 at h
  split at h <;> first | exact h.elim | exact h.2 | exact h
theorem go_getI {c : List Nat} {k nx : Nat} : oGd (o_getI c k nx) := fun p lv st mm g h => by
  unfold o_getI at h
  split at h <;> first | exact h.elim | exact h.2 | exact h
theorem go_getR {c : List Nat} {k nx : Nat} : oGd (o_getR c k nx) := fun p lv st mm g h => by
  unfold o_getR at h
  split at h
  · obtain ⟨-, q, -, x⟩ := h
    exact x
  · exact h.elim
theorem go_go {tg : Nat} : oGd (o_go tg) := fun p lv st mm g h => by
  unfold o_go at h
  exact h
theorem go_iast {nx : Nat} : oGd (o_iast nx) := fun p lv st mm g h => by
  unfold o_iast at h
  split at h <;> first | exact h.elim | exact h.2 | exact h
theorem go_ib {f : Int → Int → Int} {nx : Nat} : oGd (o_ib f nx) := fun p lv st mm g h => by
  unfold o_ib at h
  split at h <;> first | exact h.elim | exact h.2 | exact h
theorem go_ic {P : Int → Int → Prop} {tg nx : Nat} : oGd (o_ic P tg nx) := fun p lv st mm g h => by
  unfold o_ic at h
  split at h
  · exact (Classical.em _).elim h.2.1 h.2.2
  · exact h.elim
theorem go_if {P : Int → Prop} {tg nx : Nat} : oGd (o_if P tg nx) := fun p lv st mm g h => by
  unfold o_if at h
  split at h
  · exact (Classical.em _).elim h.2.1 h.2.2
  · exact h.elim
theorem go_ild {i nx : Nat} : oGd (o_ild i nx) := fun p lv st mm g h => by
  unfold o_ild at h
  split at h <;> first | exact h.elim | exact h.2 | exact h
theorem go_inc {i : Nat} {n : Int} {nx : Nat} : oGd (o_inc i n nx) := fun p lv st mm g h => by
  unfold o_inc at h
  split at h <;> first | exact h.elim | exact h.2 | exact h
theorem go_ist {i nx : Nat} : oGd (o_ist i nx) := fun p lv st mm g h => by
  unfold o_ist at h
  split at h <;> first | exact h.elim | exact h.2 | exact h
theorem go_neg {nx : Nat} : oGd (o_neg nx) := fun p lv st mm g h => by
  unfold o_neg at h
  split at h <;> first | exact h.elim | exact h.2 | exact h
theorem go_push {v : oA} {nx : Nat} : oGd (o_push v nx) := fun p lv st mm g h => by
  unfold o_push at h
  exact h
theorem go_putI {c : List Nat} {k nx : Nat} : oGd (o_putI c k nx) := fun p lv st mm g h => by
  unfold o_putI at h
  split at h <;> first | exact h.elim | exact h.2 | exact h
theorem go_rem {nx : Nat} : oGd (o_rem nx) := fun p lv st mm g h => by
  unfold o_rem at h
  split at h <;> first | exact h.elim | exact h.2 | exact h
theorem go_ret0 {mc ms : Nat} : oGd (o_ret0 mc ms) := fun p lv st mm g h => by
  unfold o_ret0 at h
  exact h.2.2
theorem go_reti {mc ms : Nat} : oGd (o_reti mc ms) := fun p lv st mm g h => by
  unfold o_reti at h
  split at h <;> first | exact h.elim | exact h.2 | exact h
theorem go_retz {mc ms : Nat} : oGd (o_retz mc ms) := fun p lv st mm g h => by
  unfold o_retz at h
  split at h <;> first | exact h.elim | exact h.2 | exact h
theorem go_xald {c nx : Nat} : oGd (o_xald c nx) := fun p lv st mm g h => by
  unfold o_xald at h
  split at h <;> first | exact h.elim | exact h.2 | exact h
theorem go_call {T : List oA → oM → oQ → Prop} {k mc ms Mc Ms nx : Nat} (t : ∀ (p : Prop) av mm, T av mm (fun _ _ => p) → p) : oGd (o_call T k mc ms Mc Ms nx) := fun p lv st mm g h => t _ _ _ h.2
theorem go_callo {T : List oA → oM → oQ → Prop} {ci k mc ms Mc Ms nx : Nat} (t : ∀ (p : Prop) av mm, T av mm (fun _ _ => p) → p) : oGd (o_callo T ci k mc ms Mc Ms nx) := fun p lv st mm g h => by
  unfold o_callo at h
  split at h
  · exact t _ _ _ h.2
  · exact h.elim
theorem P_size : ∀ (p : Prop) av mm, T_X12_size av mm (fun _ _ => p) → p := by
  unfold T_X12_size tb_X12_size
  exact oT_p ⟨go_ild, go_if, go_ild, go_neg, go_go, go_ild, go_reti, trivial⟩
theorem P_bakesAt : ∀ (p : Prop) av mm, T_X12_bakesAt av mm (fun _ _ => p) → p := by
  unfold T_X12_bakesAt tb_X12_bakesAt
  exact oT_p ⟨go_push, go_ist, go_push, go_ist, go_ild, go_ald, go_getI, go_ic, go_ald, go_getR, go_ild, go_xald, go_ild, go_ic, go_ild, go_ald, go_getR, go_ild, go_xald, go_ild, go_ib, go_ald, go_getI, go_ib, go_ic, go_ild, go_ald, go_getR, go_ild, go_xald, go_ic, go_push, go_go, go_push, go_ist, go_ild, go_ild, go_if, go_push, go_go, go_push, go_ib, go_ist, go_inc, go_go, go_ild, go_ald, go_getI, go_ib, go_reti, trivial⟩
theorem P_edge : ∀ (p : Prop) av mm, T_X12_edge av mm (fun _ _ => p) → p := by
  unfold T_X12_edge tb_X12_edge
  exact oT_p ⟨go_ald, go_getR, go_ald, go_getI, go_ild, go_iast, go_ald, go_getR, go_ald, go_getI, go_ild, go_iast, go_ald, go_getR, go_ald, go_getI, go_ild, go_iast, go_ald, go_getR, go_ald, go_getI, go_ild, go_iast, go_ald, go_getR, go_ald, go_getI, go_push, go_ib, go_ild, go_iast, go_ald, go_getR, go_ald, go_getI, go_push, go_ib, go_ild, go_iast, go_ald, go_getR, go_ald, go_getI, go_push, go_ib, go_push, go_iast, go_ald, go_getR, go_ald, go_getI, go_push, go_ib, go_ild, go_neg, go_iast, go_ald, go_dup, go_getI, go_push, go_ib, go_putI, go_ret0, trivial⟩
theorem P_layOven : ∀ (p : Prop) av mm, T_X12_layOven av mm (fun _ _ => p) → p := by
  unfold T_X12_layOven tb_X12_layOven
  exact oT_p ⟨go_ald, go_ild, go_ild, go_push, go_ib, go_ild, go_push, go_callo P_edge, go_ild, go_if, go_ald, go_push, go_ild, go_ib, go_ild, go_push, go_push, go_callo P_edge, go_ild, go_ild, go_ild, go_ib, go_ic, go_ald, go_push, go_ild, go_push, go_ild, go_callo P_edge, go_push, go_ist, go_ild, go_ild, go_ic, go_ild, go_ald, go_getR, go_ild, go_xald, go_ib, go_call P_size, go_ist, go_ild, go_ild, go_ib, go_ild, go_ic, go_ild, go_ild, go_ib, go_ald, go_getI, go_ic, go_ald, go_ild, go_push, go_ib, go_push, go_ild, go_ib, go_push, go_ild, go_callo P_edge, go_inc, go_go, go_ret0, trivial⟩
theorem P_layEdges : ∀ (p : Prop) av mm, T_X12_layEdges av mm (fun _ _ => p) → p := by
  unfold T_X12_layEdges tb_X12_layEdges
  exact oT_p ⟨go_ald, go_push, go_putI, go_push, go_ist, go_ild, go_ald, go_getI, go_ic, go_ald, go_push, go_push, go_ild, go_ib, go_ald, go_getR, go_ild, go_xald, go_push, go_callo P_edge, go_inc, go_go, go_push, go_ist, go_ild, go_ild, go_ic, go_ald, go_push, go_ild, go_ib, go_push, go_ald, go_getR, go_ild, go_xald, go_push, go_callo P_edge, go_inc, go_go, go_push, go_ist, go_push, go_ist, go_ild, go_ald, go_getI, go_ic, go_push, go_ist, go_ild, go_ild, go_ic, go_ald, go_ild, go_ild, go_ild, go_callo P_bakesAt, go_ist, go_ild, go_if, go_ald, go_ild, go_ild, go_ild, go_ild, go_ild, go_ild, go_callo P_layOven, go_inc, go_inc, go_go, go_inc, go_go, go_ret0, trivial⟩
theorem P_walk : ∀ (p : Prop) av mm, T_X12_walk av mm (fun _ _ => p) → p := by
  unfold T_X12_walk tb_X12_walk
  exact oT_p ⟨go_push, go_ist, go_push, go_ist, go_push, go_ist, go_ild, go_ald, go_getI, go_ic, go_ald, go_getR, go_ild, go_xald, go_ist, go_ild, go_push, go_ic, go_ild, go_ild, go_ib, go_push, go_ib, go_ist, go_inc, go_ild, go_ild, go_ib, go_ist, go_ild, go_if, go_push, go_go, go_ild, go_ald, go_getI, go_push, go_ib, go_ic, go_ald, go_getI, go_push, go_ib, go_go, go_ild, go_ist, go_ald, go_getR, go_ild, go_ild, go_iast, go_inc, go_go, go_ret0, trivial⟩
theorem P_seek : ∀ (p : Prop) av mm, T_X12_seek av mm (fun _ _ => p) → p := by
  unfold T_X12_seek tb_X12_seek
  exact oT_p ⟨go_push, go_ist, go_ild, go_push, go_ic, go_ald, go_getR, go_ild, go_push, go_iast, go_inc, go_go, go_ald, go_getR, go_push, go_push, go_iast, go_push, go_ist, go_ild, go_if, go_push, go_ist, go_push, go_ist, go_ild, go_ald, go_getI, go_ic, go_ald, go_getR, go_ald, go_getR, go_ild, go_xald, go_xald, go_ald, go_getR, go_ild, go_xald, go_ib, go_ist, go_ald, go_getR, go_ild, go_xald, go_if, go_ald, go_getR, go_ald, go_getR, go_ild, go_xald, go_xald, go_push, go_ic, go_ild, go_ald, go_getR, go_ald, go_getR, go_ild, go_xald, go_xald, go_ic, go_ald, go_getR, go_ald, go_getR, go_ild, go_xald, go_ild, go_iast, go_ald, go_getR, go_ald, go_getR, go_ild, go_xald, go_ild, go_iast, go_push, go_ist, go_inc, go_go, go_go, go_ald, go_getR, go_push, go_xald, go_push, go_ic, go_push, go_go, go_push, go_retz, trivial⟩
theorem P_flow : ∀ (p : Prop) av mm, T_X12_flow av mm (fun _ _ => p) → p := by
  unfold T_X12_flow tb_X12_flow
  exact oT_p ⟨go_ald, go_ild, go_callo P_walk, go_ald, go_ild, go_ild, go_callo P_layEdges, go_push, go_ist, go_push, go_ist, go_ald, go_push, go_putI, go_push, go_ist, go_ild, go_ild, go_ic, go_ild, go_ald, go_getR, go_ild, go_xald, go_ib, go_ist, go_inc, go_go, go_ald, go_callo P_seek, go_if, go_push, go_ist, go_push, go_ist, go_ild, go_if, go_ald, go_getR, go_ild, go_xald, go_ist, go_ald, go_getR, go_ild, go_xald, go_ild, go_ic, go_ald, go_getR, go_ild, go_xald, go_go, go_ild, go_ist, go_ald, go_getR, go_ald, go_getR, go_ild, go_xald, go_xald, go_ist, go_go, go_push, go_ist, go_ild, go_if, go_ald, go_getR, go_ild, go_xald, go_ist, go_ild, go_push, go_rem, go_if, go_ild, go_push, go_ib, go_go, go_ild, go_push, go_ib, go_ist, go_ald, go_getR, go_ild, go_dup2, go_xald, go_ild, go_ib, go_iast, go_ald, go_getR, go_ild, go_dup2, go_xald, go_ild, go_ib, go_iast, go_ald, go_getR, go_ald, go_getR, go_ild, go_xald, go_xald, go_ist, go_go, go_ild, go_ild, go_ib, go_ist, go_ald, go_dup, go_getI, go_ild, go_ald, go_getR, go_push, go_xald, go_ib, go_ib, go_putI, go_go, go_ald, go_ild, go_ild, go_ib, go_putI, go_ret0, trivial⟩
/-- a best flow is there: the reference itself would find one -/
def exI (P last : Int) (F men : Nat → Int) (l : List stT) (bk bd kp D : Int) (S : Nat → Int) : Nat → Nat → Int := fun h k => if h = 44 then (if k = 0 then P else if k = 3 then bk else if k = 4 then bd else if k = 5 then kp else if k = 38 then D else if k = 43 then (l.length : Int) else 0) else if h = 45 then F k else if h = 65 then S k else if h = 66 then men k else if h = 68 then (stG l k).1 else if h = 69 then (stG l k).2.1 else if h = 70 then (stG l k).2.2 else 0
theorem best_ex {sh : oS} (hs : Sh sh) {P D : Nat} {F men S : Nat → Int} {way last so bk bd kp : Int} {l : List stT} (hP : 1 ≤ P ∧ P ≤ 8) (hD : D ≤ 10) (hbk : 0 ≤ bk ∧ bk ≤ 1000) (hbd : 0 ≤ bd ∧ bd ≤ 1000) (hkp : 0 ≤ kp ∧ kp ≤ 1000) (hF : ∀ p, p < P → 0 ≤ F p ∧ F p ≤ 100000) (hS : ∀ d, d < D → -1 ≤ S d ∧ S d ≤ 2) (hM : ∀ d, d < D → 0 ≤ men d ∧ men d ≤ 99) (hn : l.length ≤ 40) (ho : stOK P D l) (hla : 0 ≤ last ∧ last < D) (hso : 0 ≤ so ∧ so ≤ 9) : ∃ v c, cBest (capL P last F men (colP P S way) l bk bd kp so) (cW (colP P S way)) v c := by
  have pre : mPre (exI P last F men l bk bd kp D S) P l.length D := ⟨rfl, hP.1, hP.2, rfl, hn, rfl, hD, hbk, hbd, hkp, hF, hS, hM, fun i hi => by
    have b := ho _ (stG_m hi)
    show inR (stG l i).1 ∧ (0 ≤ (stG l i).2.1 ∧ (stG l i).2.1 ≤ 1000) ∧ inR (stG l i).2.2
    omega⟩
  exact P_flow _ _ _ (s_mflow (sh := sh) (I := exI P last F men l bk bd kp D S) (L := fun _ _ => 0) (way := way) (last := last) (so := so) (Q := fun _ _ => ∃ v c, cBest (capL P last F men (colP P S way) l bk bd kp so) (cW (colP P S way)) v c) hs pre hla hso (fun J v c _ _ hb _ _ => ⟨v, c, hb⟩))
/-- more room, no less flow -/
theorem mV_mono {cp cq : Nat → Int} {v w : Int} (h : cMax cp v) (g : cMax cq w) (le : ∀ l, l < 1994 → cp l ≤ cq l) : v ≤ w := by
  obtain ⟨phi, R, f, r0, r1, c1, c2, e⟩ := h
  have f2 : cFlow cq phi := ⟨fun l hl => ⟨(f.1 l hl).1, Int.le_trans (f.1 l hl).2 (le l hl)⟩, f.2⟩
  rw [e]
  exact g.ge f2
