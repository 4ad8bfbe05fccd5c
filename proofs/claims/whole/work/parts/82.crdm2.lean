/-! the class reads a march -/
def maIs (J : Nat → Nat → Int) (h : Nat) (s : maS) : Prop := J h 0 = s.2.1 ∧ J h 1 = s.2.2.2.1 ∧ (∀ x : Nat, (x : Int) < s.2.1 → J (h + 1) x = s.2.2.2.2.2.2.1 x ∧ J (h + 2) x = s.2.2.2.2.2.1 x) ∧ ∀ x : Nat, (x : Int) < s.2.2.2.1 → J (h + 3) x = s.2.2.2.2.2.2.2 x
section RM
variable {sh : oS} {L : Nat → Nat → Int64} {pg : Nat → Int} {len h : Nat} {s0 : maS}
/-- the head of the loop over items -/
def maHd (s0 : maS) (pg : Nat → Int) (len c : Nat) (st : Int) (many ch : Nat) (men mv : Int) (Mv Mn Tn : Nat → Int) : Prop := rdAt maStep s0 pg c = some (st, (many : Int), men, (ch : Int), mv, Mv, Mn, Tn) ∧ (st = 3 ∨ st = 4 ∨ st = 7 ∨ st = 8 ∨ st = 9) ∧ (st = 9 → many = 0) ∧ many ≤ 10 ∧ ch ≤ 2 ∧ (c < len → maStep (st, (many : Int), men, (ch : Int), mv, Mv, Mn, Tn) (lkP pg len c) = maRest (many : Int) men (ch : Int) mv Mv Mn Tn (lkP pg len c)) ∧ (1 ≤ men ∧ men ≤ 99)
set_option maxHeartbeats 1000000 in
theorem s_readTenths {I : Nat → Nat → Int} {Q : oQ} (hs : Sh sh) (A : MA sh h) {c many ch : Nat} {men mv : Int} {Mv Mn Tn : Nat → Int} (hp : pgA I pg len c) (hr : rdAt maStep s0 pg c = some (5, (many : Int), men, (ch : Int), mv, Mv, Mn, Tn)) (hm : many < 10) (hch : ch < 2) (hmen : 1 ≤ men ∧ men ≤ 99) (hc : maC I h many ch Mv Mn Tn)
    (k0 : ∀ J (c : Nat) (s : maS), FrH h I J → pgA J pg len c → rdEnd maStep s0 pg len c s → ¬ (c = len ∧ maE s) → Q (some (vI 0)) (sh, J, L))
    (k1 : ∀ J (c' : Nat) (st : Int) (many ch : Nat) (mv : Int) (Mv Mn Tn : Nat → Int), FrH h I J → pgA J pg len c' → c < c' → maHd s0 pg len c' st many ch men mv Mv Mn Tn → maC J h many ch Mv Mn Tn → Q (some (vI 1)) (sh, J, L)) : T_X6_readTenths [vR h, vR 1, vI men] (sh, I, L) Q := by
  refine And.intro (Nat.le_of_ble_eq_true rfl) (fun K hK => ?_)
  obtain ⟨M, hh⟩ := id A
  refine B_X6_readTenths_0 hK hs (k := ?_)
  refine s_digit hs hp (by decide) (by decide) (fun d1 d2 d3 d4 => ?_) (fun d => ?_)
  rotate_left
  · refine B_X6_readTenths_7 hK (n9 := by decide) (kt := fun _ => ?_) (kf := fun z => absurd (by decide) z)
    refine B_X6_readTenths_20 hK (k := ?_)
    exact k0 I c _ Fr.rf hp (rd_no hr hp.2.2.2.1 (fun _ => ma_5n (fun z => d (by have := z.1.1; have := z.1.2; have := z.2; omega)))) (fun z => by have := z.2; unfold maE at this; dsimp only at this; omega)
  have g := rd_go hr d3 rfl
  generalize lkP pg len c = x at *
  rw [ma_5 ⟨by omega, by omega⟩ d1, Int.toNat_natCast, Int.toNat_natCast] at g
  refine B_X6_readTenths_7 hK (n9 := by omega) (kt := fun z => absurd z (by omega)) (kf := fun _ => ?_)
  have hc2 := hc.fr (by omega) (Fr.rf.u (I := I) (hl := []) (fl := [(1, 2)]) 1 2 (I 1 2 + 1) (by simp))
  have F2 : FrH h I (u2 I 1 2 (I 1 2 + 1)) := Fr.rf.u 1 2 _ (by simp)
  generalize u2 I 1 2 (I 1 2 + 1) = J at *
  obtain ⟨c1, c2, c3, c4⟩ := hc2
  refine B_X6_readTenths_12 hK (Ah0 := M) (n17a := by omega) (kt := fun _ => ?_) (kf := fun z => absurd (by omega) z)
  have e1 : u2 J (h + 3) ((J h 1).toNat) (x - 48) h 1 = J h 1 := uN (by omega)
  refine B_X6_readTenths_22 hK (Ah0 := M) (b31 := by omega) (k := ?_)
  rw [e1, show (J h 1).toNat = ch by omega]
  refine s_addDays (D := many) (n := 1) A (by rw [uK (by decide), uN (by omega)]; exact c1) (by omega) (fun J2 F3 q0 q1 q2 => ?_)
  refine B_X6_readTenths_49 hK (k := ?_)
  refine k1 J2 (c + 1) 3 (many + 1) (ch + 1) mv (up Mv many 2) (up Mn many men) (up Tn ch (x - 48)) ?_ ?_ (by omega) ⟨g, by omega, by omega, by omega, by omega, fun _ => ma_rest (by omega) (by omega) (by omega), hmen⟩ ⟨q0, ?_, fun y hy => ?_, fun y hy => ?_⟩
  · exact ((F2.u (h + 3) _ _ (by simp)).u h 1 _ (by simp)).tr F3 (by simp) (by simp) (by simp) (by simp)
  · refine ((d4.u (by omega) (by omega)).u (by omega) (by omega) : pgA (u2 (u2 J (h + 3) ch (x - 48)) h 1 (J h 1 + 1)) pg len (c + 1)).fr (F3 1 1 (by simp <;> omega) (by simp)) (F3 1 2 (by simp <;> omega) (by simp)) (by funext y; exact F3 2 y (by simp <;> omega) (by simp <;> omega))
  · rw [F3 h 1 (by simp) (by simp), uA, c2]; rfl
  · rw [q1, q2, fil_1, fil_1, u2_oth (by omega), u2_oth (by omega), u2_oth (by omega), u2_oth (by omega)]
    unfold up
    by_cases e : y = many
    · rw [if_pos e, if_pos e, if_pos e, if_pos e]
      exact ⟨rfl, rfl⟩
    · rw [if_neg e, if_neg e, if_neg e, if_neg e]
      exact c3 y (by omega)
  · rw [F3 (h + 3) y (by simp) (by simp), uN (by omega)]
    by_cases e : y = ch
    · subst e
      rw [uA, up_at]
    · rw [uK e, up_ne e]
      exact c4 y (by omega)
set_option maxHeartbeats 2000000 in
theorem s_readSteps {I : Nat → Nat → Int} {Q : oQ} (hs : Sh sh) (A : MA sh h) {c many ch : Nat} {st men mv : Int} {Mv Mn Tn : Nat → Int} (hp : pgA I pg len c) (hd : maHd s0 pg len c st many ch men mv Mv Mn Tn) (hlen : c < len) (n1 : lkP pg len c ≠ 109) (n2 : many < 10 → ch < 2 → lkP pg len c ≠ 99) (hc : maC I h many ch Mv Mn Tn)
    (k0 : ∀ J (c : Nat) (s : maS), FrH h I J → pgA J pg len c → rdEnd maStep s0 pg len c s → ¬ (c = len ∧ maE s) → Q (some (vI 0)) (sh, J, L))
    (k1 : ∀ J (c' : Nat) (st : Int) (many ch : Nat) (mv : Int) (Mv Mn Tn : Nat → Int), FrH h I J → pgA J pg len c' → c < c' → maHd s0 pg len c' st many ch men mv Mv Mn Tn → maC J h many ch Mv Mn Tn → Q (some (vI 1)) (sh, J, L)) : T_X6_readSteps [vR h, vR 1, vI men] (sh, I, L) Q := by
  refine And.intro (Nat.le_of_ble_eq_true rfl) (fun K hK => ?_)
  obtain ⟨M, hh⟩ := id A
  obtain ⟨hr, hst, hst9, hm10, hch2, hstep, hmen⟩ := hd
  obtain ⟨c1, c2, c3, c4⟩ := id hc
  have stop : maRest (many : Int) men (ch : Int) mv Mv Mn Tn (lkP pg len c) = none → Q (some (vI 0)) (sh, I, L) := fun e =>
    k0 I c _ Fr.rf hp (rd_no hr hp.2.2.2.1 (fun z => by rw [hstep z, e])) (fun z => by have := z.1; omega)
  refine B_X6_readSteps_0 hK (Ah0 := M) (n6a := by omega) (kt := fun hlt => ?_) (kf := fun z => ?_)
  rotate_left
  · refine B_X6_readSteps_9 hK (k := stop (maR_n n1 (fun z2 => absurd (by omega) z2)))
  -- a letter was taken
  have go : ∀ (J : Nat → Nat → Int) (x : Int), Fr [] [(1, 2)] I J → pgA J pg len (c + 1) → lkP pg len c = x → (x = 102 ∨ x = 98 ∨ x = 115) → K 51 [some (vR h), some (vR 1), some (vI men), none, none] [vI (mvOf x)] (sh, J, L) (0, 0) := by
    intro J x FJ hpJ ex hx
    have mb := mvOf_bd (c := x)
    have g := rd_go hr hlen ex
    rw [← ex, hstep hlen, ex, maR_s (by omega) hx, Int.toNat_natCast] at g
    have FH : FrH h I J := FJ.mono (by simp) (by simp)
    have hcJ := hc.fr (by omega) FJ
    obtain ⟨a1, a2, a3, a4⟩ := id hcJ
    refine B_X6_readSteps_51 hK (n54a := by omega) (kt := fun _ => ?_) (kf := fun z => absurd (by omega) z)
    refine B_X6_readSteps_59 hK hs (Ah0 := M) (n70b := by omega) (k := ?_)
    have fm : fMin 9 (10 - J h 0) = (if 10 - (many : Int) < 9 then 10 - (many : Int) else 9) := by
      unfold fMin
      rw [a1]
    rw [fm]
    -- days are added
    have add : ∀ (J2 : Nat → Nat → Int) (c2 n : Nat) (st2 : Int) (Mv2 Mn2 : Nat → Int), Fr [] [(1, 2)] J J2 → pgA J2 pg len c2 → c < c2 → 1 ≤ n → many + n ≤ 10 → (st2 = 3 ∨ st2 = 4) → rdAt maStep s0 pg c2 = some (st2, ((many + n : Nat) : Int), men, (ch : Int), mvOf x, Mv2, Mn2, Tn) → (∀ y, y < many + n → Mv2 y = fil Mv many n (mvOf x) y ∧ Mn2 y = fil Mn many n men y) → (c2 < len → maStep (st2, ((many + n : Nat) : Int), men, (ch : Int), mvOf x, Mv2, Mn2, Tn) (lkP pg len c2) = maRest ((many + n : Nat) : Int) men (ch : Int) (mvOf x) Mv2 Mn2 Tn (lkP pg len c2)) → K 91 [none, none, some (vI men), none, none] [vI (n : Int), vI (mvOf x), vR h] (sh, J2, L) (0, 0) := by
      intro J2 c2 n st2 Mv2 Mn2 F2 hp2 lt hn hn10 hst2 hr2 hM hs2
      refine B_X6_readSteps_91 hK (As0 := M) (k := ?_)
      obtain ⟨b1, b2, b3, b4⟩ := hcJ.fr (by omega) F2
      refine s_addDays (D := many) (n := n) A b1 hn10 (fun J3 F3 q0 q1 q2 => ?_)
      refine B_X6_readSteps_95 hK (k := ?_)
      refine k1 J3 c2 st2 (many + n) ch (mvOf x) Mv2 Mn2 Tn ((FH.one F2).tr F3 (by simp) (by simp) (by simp) (by simp)) ?_ lt ⟨hr2, by omega, by omega, by omega, by omega, hs2, hmen⟩ ⟨q0, ?_, fun y hy => ?_, fun y hy => ?_⟩
      · exact hp2.fr (F3 1 1 (by simp <;> omega) (by simp <;> omega)) (F3 1 2 (by simp <;> omega) (by simp <;> omega)) (by funext y; exact F3 2 y (by simp <;> omega) (by simp <;> omega))
      · rw [F3 h 1 (by simp) (by simp)]; exact b2
      · rw [q1, q2, (hM y hy).1, (hM y hy).2]
        unfold fil
        by_cases e : many ≤ y ∧ y < many + n
        · rw [if_pos e, if_pos e, if_pos e, if_pos e]
          exact ⟨rfl, rfl⟩
        · rw [if_neg e, if_neg e, if_neg e, if_neg e]
          exact b3 y (by omega)
      · rw [F3 (h + 3) y (by simp) (by simp <;> omega)]
        exact b4 y hy
    have lo : 0 ≤ (if 10 - (many : Int) < 9 then 10 - (many : Int) else 9) ∧ (if 10 - (many : Int) < 9 then 10 - (many : Int) else 9) ≤ 9 := by split <;> omega
    refine s_digit hs hpJ (by decide) lo (fun d1 d2 d3 d4 => ?_) (fun d => ?_)
    · have g2 := rd_go g d3 rfl
      have d5 : lkP pg len (c + 1) - 48 ≤ 10 - (many : Int) ∧ lkP pg len (c + 1) - 48 ≤ 9 := by split at d2 <;> omega
      generalize lkP pg len (c + 1) = y at *
      rw [ma_4 ⟨by omega, by omega⟩ d1 (by omega)] at g2
      refine B_X6_readSteps_76 hK (n82 := by omega) (kt := fun _ => ?_) (kf := fun z => absurd (by omega) z)
      refine B_X6_readSteps_89 hK (k := ?_)
      obtain ⟨n, en⟩ := Int.eq_ofNat_of_zero_le (show 0 ≤ y - 48 by omega)
      rw [en]
      have e3 : (many : Int) + 1 + (y - 49) = ((many + n : Nat) : Int) := by omega
      have e4 : ((many : Int) + 1).toNat = many + 1 := by omega
      have e5 : (y - 49).toNat = n - 1 := by omega
      rw [e3, e4, e5] at g2
      refine add _ (c + 1 + 1) n 3 _ _ (Fr.rf.u 1 2 _ (by simp)) d4 (by omega) (by omega) (by omega) (Or.inl rfl) g2 (fun y _ => ⟨fil_up (by omega), fil_up (by omega)⟩) (fun _ => ma_rest (by omega) (by omega) (by omega))
    · refine B_X6_readSteps_76 hK (n82 := by decide) (kt := fun z => absurd z (by decide)) (kf := fun _ => ?_)
      refine B_X6_readSteps_85 hK (k := ?_)
      refine add J (c + 1) 1 4 _ _ Fr.rf hpJ (by omega) (by omega) (by omega) (Or.inr rfl) g (fun y _ => ⟨fil_1.symm, fil_1.symm⟩) (fun _ => ma_rest (by omega) (by omega) (fun _ z => ?_))
      have z1 := z.1
      have z2 := z.2
      apply Classical.byContradiction
      intro w
      apply d
      split <;> omega
  refine B_X6_readSteps_11 hK hs (k := ?_)
  refine s_take hs hp (by decide) (fun t1 t2 t3 => ?_) (fun f1 => ?_)
  · refine B_X6_readSteps_17 hK (n17 := by decide) (kt := fun z => absurd z (by decide)) (kf := fun _ => ?_)
    refine B_X6_readSteps_20 hK (k := ?_)
    exact go _ 102 (Fr.rf.u 1 2 _ (by simp)) t3 t1 (by omega)
  refine B_X6_readSteps_17 hK (n17 := by decide) (kt := fun _ => ?_) (kf := fun z => absurd rfl z)
  refine B_X6_readSteps_24 hK hs (k := ?_)
  refine s_take hs hp (by decide) (fun t1 t2 t3 => ?_) (fun f2 => ?_)
  · refine B_X6_readSteps_30 hK (n30 := by decide) (kt := fun z => absurd z (by decide)) (kf := fun _ => ?_)
    refine B_X6_readSteps_33 hK (k := ?_)
    exact go _ 98 (Fr.rf.u 1 2 _ (by simp)) t3 t1 (by omega)
  refine B_X6_readSteps_30 hK (n30 := by decide) (kt := fun _ => ?_) (kf := fun z => absurd rfl z)
  refine B_X6_readSteps_37 hK hs (k := ?_)
  refine s_take hs hp (by decide) (fun t1 t2 t3 => ?_) (fun f3 => ?_)
  · refine B_X6_readSteps_43 hK (n43 := by decide) (kt := fun z => absurd z (by decide)) (kf := fun _ => ?_)
    refine B_X6_readSteps_46 hK (k := ?_)
    exact go _ 115 (Fr.rf.u 1 2 _ (by simp)) t3 t1 (by omega)
  refine B_X6_readSteps_43 hK (n43 := by decide) (kt := fun _ => ?_) (kf := fun z => absurd rfl z)
  refine B_X6_readSteps_50 hK (k := ?_)
  refine B_X6_readSteps_51 hK (n54a := by decide) (kt := fun z => absurd rfl z) (kf := fun _ => ?_)
  refine B_X6_readSteps_57 hK (k := stop (maR_n n1 (fun z2 => ⟨fun e => ?_, f1, f2, f3⟩)))
  apply Classical.byContradiction
  intro w
  exact n2 (by omega) (by omega) e
end RM
