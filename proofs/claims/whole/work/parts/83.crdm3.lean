/-! the class reads a march: its items -/
set_option maxHeartbeats 2000000 in
theorem s_rdMarch {sh : oS} {I : Nat → Nat → Int} {L : Nat → Nat → Int64} {Q : oQ} (hs : Sh sh) {h : Nat} (A : MA sh h) {pg : Nat → Int} {len : Nat} {s0 : maS} {mv0 : Int} {Mv0 Mn0 Tn0 : Nat → Int} (hB : pgB I pg len) (h0 : s0 = (0, 0, 0, 0, mv0, Mv0, Mn0, Tn0))
    (k : ∀ J (n : Nat) (s : maS) (r : Int), FrH h I J → J 1 2 = (n : Int) → rdEnd maStep s0 pg len n s → ((r = 1 ∧ (n = len ∧ maE s) ∧ maIs J h s) ∨ (r = 0 ∧ ¬ (n = len ∧ maE s))) → Q (some (vI r)) (sh, J, L)) : T_X6_read [vR h, vR 1] (sh, I, L) Q := by
  refine And.intro (Nat.le_of_ble_eq_true rfl) (fun K hK => ?_)
  obtain ⟨M, hh⟩ := id A
  refine B_X6_read_0 hK hs (Ah0 := M) (k := ?_)
  have p0 : pgA (u2 (u2 (u2 I 1 2 0) h 0 0) h 1 0) pg len 0 := (hB.at0.u (by omega) (by omega)).u (by omega) (by omega)
  have F0 : FrH h I (u2 (u2 (u2 I 1 2 0) h 0 0) h 1 0) := ((Fr.rf.u 1 2 0 (by simp)).u h 0 0 (by simp)).u h 1 0 (by simp)
  have C0 : maC (u2 (u2 (u2 I 1 2 0) h 0 0) h 1 0) h 0 0 Mv0 Mn0 Tn0 := ⟨by rw [uK (by decide), uA]; rfl, by rw [uA]; rfl, fun x hx => absurd hx (by omega), fun x hx => absurd hx (by omega)⟩
  generalize u2 (u2 (u2 I 1 2 0) h 0 0) h 1 0 = J0 at *
  have r0 : rdAt maStep s0 pg 0 = some (0, 0, 0, 0, mv0, Mv0, Mn0, Tn0) := by rw [h0]; rfl
  have no : ∀ (J : Nat → Nat → Int) (c : Nat) (s : maS), FrH h I J → pgA J pg len c → rdEnd maStep s0 pg len c s → ¬ (c = len ∧ maE s) → Q (some (vI 0)) (sh, J, L) := fun J c s FJ hp hE hn => k J c s 0 FJ hp.2.1 hE (Or.inr ⟨rfl, hn⟩)
  -- items
  have lp : ∀ (d i : Nat) (J : Nat → Nat → Int) (c : Nat) (st : Int) (many ch : Nat) (men mv : Int) (Mv Mn Tn : Nat → Int), c + d = len → i + 2 ≤ c → FrH h I J → pgA J pg len c → maHd s0 pg len c st many ch men mv Mv Mn Tn → maC J h many ch Mv Mn Tn → K 39 [some (vR h), some (vR 1), some (vI men), some (vI (i : Int)), none] [] (sh, J, L) (0, 0) := by
    intro d
    induction d using Nat.strongRecOn with
    | ind d ih =>
      intro i J c st many ch men mv Mv Mn Tn hd hi FJ hp hH hC
      have l60 := hp.2.2.1
      obtain ⟨hr, hst, hst9, hm10, hch2, hstep, hmen⟩ := id hH
      refine B_X6_read_39 hK (n42a := by omega) (kt := fun z => absurd z (by omega)) (kf := fun _ => ?_)
      refine B_X6_read_45 hK hs (k := ?_)
      refine s_atEnd hs hp (fun r hr2 => ?_)
      refine B_X6_read_49 hK (n49 := by omega) (kt := fun z => ?_) (kf := fun z => ?_)
      · -- the end of the page
        have ce : c = len := by omega
        have hE : rdEnd maStep s0 pg len c (st, (many : Int), men, (ch : Int), mv, Mv, Mn, Tn) := ⟨by omega, hr, Or.inl ce⟩
        have e0 := hC.1
        refine B_X6_read_140 hK (Ah0 := M) (n144 := by omega) (kt := fun w => ?_) (kf := fun w => ?_)
        · refine B_X6_read_151 hK (k := ?_)
          refine B_X6_read_152 hK (o152 := Or.inl rfl) (k := ?_)
          exact no J c _ FJ hp hE (fun y => by have := y.2.1; dsimp only at this; omega)
        · refine B_X6_read_147 hK (k := ?_)
          refine B_X6_read_152 hK (o152 := Or.inr rfl) (k := ?_)
          refine k J c _ 1 FJ hp.2.1 hE (Or.inl ⟨rfl, ⟨ce, ?_⟩, hC.1, hC.2.1, fun x hx => ?_, fun x hx => ?_⟩)
          · unfold maE
            dsimp only
            omega
          · exact hC.2.2.1 x (by dsimp only at hx; omega)
          · exact hC.2.2.2 x (by dsimp only at hx; omega)
      · have hlen : c < len := by omega
        -- an item that fits
        have nxt : ∀ (J2 : Nat → Nat → Int) (c2 : Nat) (st : Int) (many ch : Nat) (men mv : Int) (Mv Mn Tn : Nat → Int), FrH h I J2 → pgA J2 pg len c2 → c < c2 → maHd s0 pg len c2 st many ch men mv Mv Mn Tn → maC J2 h many ch Mv Mn Tn → K 127 [some (vR h), some (vR 1), some (vI men), some (vI (i : Int)), some (vI 1)] [] (sh, J2, L) (0, 0) := by
          intro J2 c2 st2 many2 ch2 men2 mv2 Mv2 Mn2 Tn2 F2 hp2 lt hH2 hC2
          have cl := hp2.2.2.2.1
          refine B_X6_read_127 hK (n129 := by decide) (kt := fun _ => ?_) (kf := fun y => absurd (by decide) y)
          refine B_X6_read_134 hK (k := ?_)
          exact ih (len - c2) (by omega) (i + 1) J2 c2 st2 many2 ch2 men2 mv2 Mv2 Mn2 Tn2 (by omega) (by omega) F2 hp2 hH2 hC2
        have bad : ∀ (J2 : Nat → Nat → Int) (c2 : Nat) (s2 : maS) (now : Int), FrH h I J2 → pgA J2 pg len c2 → rdEnd maStep s0 pg len c2 s2 → ¬ (c2 = len ∧ maE s2) → K 127 [some (vR h), some (vR 1), some (vI now), some (vI (i : Int)), some (vI 0)] [] (sh, J2, L) (0, 0) := by
          intro J2 c2 s2 now F2 hp2 hE2 hn2
          refine B_X6_read_127 hK (n129 := by decide) (kt := fun y => absurd rfl y) (kf := fun _ => ?_)
          exact B_X6_read_132 hK (k := no J2 c2 s2 F2 hp2 hE2 hn2)
        refine B_X6_read_52 hK hs (k := ?_)
        refine s_take hs hp (by decide) (fun t1 t2 t3 => ?_) (fun f1 => ?_)
        · -- men
          refine B_X6_read_58 hK (n58 := by decide) (kt := fun y => absurd y (by decide)) (kf := fun _ => ?_)
          have g := rd_go hr hlen t1
          rw [← t1, hstep hlen, t1, maR_m] at g
          have F2 : FrH h I (u2 J 1 2 (J 1 2 + 1)) := FJ.u 1 2 _ (by simp)
          have C2 := hC.fr (J2 := u2 J 1 2 (J 1 2 + 1)) (by omega) (Fr.rf.u 1 2 _ (by simp))
          generalize u2 J 1 2 (J 1 2 + 1) = J2 at *
          refine B_X6_read_61 hK hs (k := ?_)
          refine s_numR hs (n := 2) (fun d v => ((6 : Int) + (d : Int), (many : Int), v, (ch : Int), mv, Mv, Mn, Tn)) t3 g (by decide) (by decide) (fun x z z2 => ma_6 z z2) (fun d v x z1 z2 z => ma_7 z1 z2 z) (fun J3 c3 d3 v3 F3 hp3 r3 b1 b2 b3 b4 b5 => ?_) (fun J3 F3 hp3 nd => ?_)
          · have v9 : v3 ≤ 99 := by
              have : d3 = 1 ∨ d3 = 2 := by omega
              rcases this with y | y <;> rw [y] at b3 <;> omega
            refine B_X6_read_67 hK (n69 := by omega) (kt := fun y => absurd y (by omega)) (kf := fun _ => ?_)
            refine B_X6_read_72 hK (k := ?_)
            refine B_X6_read_77 hK (k := ?_)
            exact nxt J3 c3 _ many ch v3 mv Mv Mn Tn (F2.one F3) hp3 (by omega) ⟨r3, by omega, by omega, hm10, hch2, fun _ => ma_rest (by omega) (fun e => b4 (by omega)) (by omega), by omega⟩ (C2.fr (by omega) F3)
          · refine B_X6_read_67 hK (n69 := by decide) (kt := fun _ => ?_) (kf := fun y => absurd (by decide) y)
            refine B_X6_read_76 hK (k := ?_)
            refine B_X6_read_77 hK (k := ?_)
            exact bad J3 (c + 1) _ (-1) (F2.one F3) hp3 (rd_no g hp3.2.2.2.1 (fun _ => ma_6n nd)) (fun y => by have := y.2; unfold maE at this; dsimp only at this; omega)
        · refine B_X6_read_58 hK (n58 := by decide) (kt := fun _ => ?_) (kf := fun y => absurd rfl y)
          have steps : (many < 10 → ch < 2 → lkP pg len c ≠ 99) → K 119 [some (vR h), some (vR 1), some (vI men), some (vI (i : Int)), none] [] (sh, J, L) (0, 0) := fun n2 => by
            refine B_X6_read_119 hK (Ah0 := M) (k := ?_)
            refine s_readSteps hs A hp hH hlen f1 n2 hC (fun J2 c2 s2 F2 hp2 hE2 hn2 => ?_) (fun J2 c2 st2 many2 ch2 mv2 Mv2 Mn2 Tn2 F2 hp2 lt hH2 hC2 => ?_)
            · refine B_X6_read_125 hK (k := ?_)
              exact bad J2 c2 s2 men (FJ.tr F2 (by simp) (by simp) (by simp) (by simp)) hp2 hE2 hn2
            · refine B_X6_read_125 hK (k := ?_)
              exact nxt J2 c2 st2 many2 ch2 men mv2 Mv2 Mn2 Tn2 (FJ.tr F2 (by simp) (by simp) (by simp) (by simp)) hp2 lt hH2 hC2
          have e0 := hC.1
          have e1 := hC.2.1
          refine B_X6_read_82 hK (Ah0 := M) (n88a := by omega) (kt := fun y => steps (fun w => absurd w (by omega))) (kf := fun y => ?_)
          refine B_X6_read_91 hK (Ah0 := M) (n96a := by omega) (kt := fun y2 => steps (fun _ w => absurd w (by omega))) (kf := fun y2 => ?_)
          refine B_X6_read_99 hK hs (k := ?_)
          refine s_take hs hp (by decide) (fun t1 t2 t3 => ?_) (fun f2 => ?_)
          · refine B_X6_read_105 hK (n105 := by decide) (kt := fun w => absurd w (by decide)) (kf := fun _ => ?_)
            have g := rd_go hr hlen t1
            rw [← t1, hstep hlen, t1, maR_c (by omega) (by omega)] at g
            have F2 : FrH h I (u2 J 1 2 (J 1 2 + 1)) := FJ.u 1 2 _ (by simp)
            have C2 := hC.fr (J2 := u2 J 1 2 (J 1 2 + 1)) (by omega) (Fr.rf.u 1 2 _ (by simp))
            generalize u2 J 1 2 (J 1 2 + 1) = J2 at *
            refine B_X6_read_108 hK (Ah0 := M) (k := ?_)
            refine s_readTenths hs A t3 g (by omega) (by omega) hmen C2 (fun J3 c3 s3 F3 hp3 hE3 hn3 => ?_) (fun J3 c3 st3 many3 ch3 mv3 Mv3 Mn3 Tn3 F3 hp3 lt hH3 hC3 => ?_)
            · refine B_X6_read_114 hK (k := ?_)
              exact bad J3 c3 s3 men (F2.tr F3 (by simp) (by simp) (by simp) (by simp)) hp3 hE3 hn3
            · refine B_X6_read_114 hK (k := ?_)
              exact nxt J3 c3 st3 many3 ch3 men mv3 Mv3 Mn3 Tn3 (F2.tr F3 (by simp) (by simp) (by simp) (by simp)) hp3 (by omega) hH3 hC3
          · refine B_X6_read_105 hK (n105 := by decide) (kt := fun _ => steps (fun _ _ => f2)) (kf := fun w => absurd rfl w)
  refine s_numR hs (n := 2) (fun d v => ((d : Int), 0, v, 0, mv0, Mv0, Mn0, Tn0)) p0 r0 (by decide) (by decide) (fun x z z2 => ma_h0 z z2) (fun d v x z1 z2 z => ma_h1 z1 z2 z) (fun J1 c1 d1 v1 F1 hp1 r1 b1 b2 b3 b4 b5 => ?_) (fun J1 F1 hp1 nd => ?_)
  · have v9 : v1 ≤ 99 := by
      have : d1 = 1 ∨ d1 = 2 := by omega
      rcases this with y | y <;> rw [y] at b3 <;> omega
    refine B_X6_read_21 hK (n23 := by omega) (kt := fun z => absurd z (by omega)) (kf := fun _ => ?_)
    refine B_X6_read_26 hK hs (k := ?_)
    refine s_take hs hp1 (by decide) (fun t1 t2 t3 => ?_) (fun f1 => ?_)
    · refine B_X6_read_32 hK (n32 := by decide) (kt := fun _ => ?_) (kf := fun z => absurd (by decide) z)
      have g := rd_go r1 t2 t1
      rw [ma_col (by omega)] at g
      refine B_X6_read_37 hK (k := ?_)
      exact lp (len - (c1 + 1)) 0 _ (c1 + 1) 9 0 0 v1 mv0 Mv0 Mn0 Tn0 (by omega) (by omega) ((F0.one F1).u 1 2 _ (by simp)) t3 ⟨g, by omega, fun _ => rfl, by omega, by omega, fun _ => ma_rest (by omega) (by omega) (by omega), by omega⟩ ((C0.fr (by omega) F1).fr (by omega) (Fr.rf.u 1 2 _ (by simp)))
    · refine B_X6_read_32 hK (n32 := by decide) (kt := fun z => absurd rfl z) (kf := fun _ => ?_)
      refine B_X6_read_35 hK (k := ?_)
      exact no J1 c1 _ (F0.one F1) hp1 (rd_no r1 hp1.2.2.2.1 (fun _ => ma_hn (by omega) (by omega) (fun e => b4 (by omega)) (fun _ => f1))) (fun y => by have := y.2; unfold maE at this; dsimp only at this; omega)
  · refine B_X6_read_21 hK (n23 := by decide) (kt := fun _ => ?_) (kf := fun z => absurd (by decide) z)
    refine B_X6_read_35 hK (k := ?_)
    exact no J1 0 _ (F0.one F1) hp1 (rd_no r0 hp1.2.2.2.1 (fun _ => ma_hn (by decide) (fun _ => nd) (fun e => absurd e (by decide)) (fun e => absurd e (by decide)))) (fun y => by have := y.2; unfold maE at this; dsimp only at this; omega)
