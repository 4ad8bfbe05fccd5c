/-! the reference reads stands -/
abbrev seS : Type := Int × Int × (Nat → Int)
def seStep (s : seS) (c : Int) : Option seS :=
  if s.1 = 0 then (if 48 ≤ c ∧ c ≤ 55 then some (1, s.2.1 + 1, up (up (up s.2.2 (3 * s.2.1).toNat (c - 48)) (3 * s.2.1 + 1).toNat 0) (3 * s.2.1 + 2).toNat 0) else none)
  else if s.1 = 1 then (if c = 100 then some (2, s.2.1, s.2.2) else none)
  else if s.1 < 5 then (if isDg c ∧ s.1 < 4 then some (s.1 + 1, s.2.1, up s.2.2 (3 * s.2.1 - 2).toNat (10 * s.2.2 (3 * s.2.1 - 2).toNat + c - 48)) else if 2 < s.1 ∧ c = 45 then some (5, s.2.1, s.2.2) else none)
  else (if isDg c ∧ s.1 < 7 then some (s.1 + 1, s.2.1, up s.2.2 (3 * s.2.1 - 1).toNat (10 * s.2.2 (3 * s.2.1 - 1).toNat + c - 48)) else if 5 < s.1 ∧ c = 44 ∧ s.2.1 < 6 then some (0, s.2.1, s.2.2) else none)
def seR (s : seS) (J : Nat → Nat → Int) : Prop := J 44 27 = s.2.1 ∧ J 64 = s.2.2
def seOut (x : Option seS) (r : Int) (J : Nat → Nat → Int) : Prop := match x with
  | none => r = -1 ∧ inR (J 44 27)
  | some s => r = s.1 ∧ seR s J
abbrev FrS (I J : Nat → Nat → Int) : Prop := Fr [64] [(44, 27)] I J
set_option maxHeartbeats 1000000 in
theorem s_nextStand {sh : oS} {I : Nat → Nat → Int} {L : Nat → Nat → Int64} {Q : oQ} (hs : Sh sh) {st c : Int} (hst : 0 ≤ st ∧ st ≤ 7) (hc : 0 ≤ c ∧ c ≤ 127) (hm : 0 ≤ I 44 27 ∧ I 44 27 ≤ 6) (h0 : st = 0 → I 44 27 < 6) (h1 : st ≠ 0 → 1 ≤ I 44 27)
    (k : ∀ r J, FrS I J → seOut (seStep (st, I 44 27, I 64) c) r J → Q (some (vI r)) (sh, J, L)) : T_X12_nextStand [vR 44, vI st, vI c] (sh, I, L) Q := by
  refine And.intro (Nat.le_of_ble_eq_true rfl) (fun K hK => ?_)
  have hI : inR (I 44 27) := by omega
  unfold seStep at k
  dsimp only at k
  refine B_X12_nextStand_0 hK (k := ?_)
  refine s_isDigit2 (by omega) (fun d hd => ?_)
  refine B_X12_nextStand_4 hK (n6 := by omega) (k := ?_)
  by_cases z0 : st = 0
  · rw [if_pos z0] at k
    rw [swT_in 0 40 (by omega) (by rfl)]
    refine hK.2 [true, false, true, false] _ _ _ _ _ ?_
    show K 40 [some (vR 44), none, some (vI c), none] [] (sh, I, L) (0, 0)
    refine B_X12_nextStand_40 hK (k := ?_)
    refine s_within2 (by omega) (by decide) (by decide) (fun w hw => ?_)
    refine B_X12_nextStand_48 hK (n48 := by omega) (kt := fun y => ?_) (kf := fun y => ?_)
    · rw [if_pos (show 48 ≤ c ∧ c ≤ 55 by omega)] at k
      have g := h0 z0
      refine B_X12_nextStand_53 hK hs (b67 := by omega) (b81 := by omega) (b95 := by omega) (k := ?_)
      refine k _ _ ((((Fr.rf.u 64 _ _ (by simp)).u 64 _ _ (by simp)).u 64 _ _ (by simp)).u 44 27 _ (by simp)) ⟨rfl, rfl, ?_⟩
      rw [u2_oth (by decide), u2_row, u2_row, u2_row]
    · rw [if_neg (show ¬ (48 ≤ c ∧ c ≤ 55) by omega)] at k
      exact B_X12_nextStand_51 hK (k := k _ _ Fr.rf ⟨rfl, hI⟩)
  rw [if_neg z0] at k
  have g1 := h1 z0
  by_cases z1 : st = 1
  · rw [if_pos z1] at k
    rw [swT_in 1 108 (by omega) (by rfl)]
    refine hK.2 [false, false, true, false] _ _ _ _ _ ?_
    show K 108 [none, none, some (vI c), none] [] (sh, I, L) (0, 0)
    refine B_X12_nextStand_108 hK (n111a := by omega) (kt := fun y => ?_) (kf := fun y => ?_)
    · rw [if_neg y] at k
      exact B_X12_nextStand_118 hK (k := B_X12_nextStand_119 hK (k := k _ _ Fr.rf ⟨rfl, hI⟩))
    · rw [if_pos (Classical.not_not.1 y)] at k
      exact B_X12_nextStand_114 hK (k := B_X12_nextStand_119 hK (k := k _ _ Fr.rf ⟨rfl, rfl, rfl⟩))
  rw [if_neg z1] at k
  by_cases z2 : st < 5
  · rw [if_pos z2] at k
    have g120 : K 120 [some (vR 44), some (vI st), some (vI c), some (vI d)] [] (sh, I, L) (0, 0) := by
      have t167 : ¬ (isDg c ∧ st < 4) → K 167 [none, some (vI st), some (vI c), none] [] (sh, I, L) (0, 0) := fun y => by
        rw [if_neg y] at k
        have no : ¬ (2 < st ∧ c = 45) → K 182 [none, none, none, none] [] (sh, I, L) (0, 0) := fun y2 => by
          rw [if_neg y2] at k
          exact B_X12_nextStand_182 hK (k := B_X12_nextStand_183 hK (k := k _ _ Fr.rf ⟨rfl, hI⟩))
        refine B_X12_nextStand_167 hK (n169a := by omega) (kt := fun y2 => no (by omega)) (kf := fun y2 => ?_)
        refine B_X12_nextStand_172 hK (n175a := by omega) (kt := fun y3 => no (fun u => y3 u.2)) (kf := fun y3 => ?_)
        rw [if_pos (show 2 < st ∧ c = 45 from ⟨by omega, Classical.not_not.1 y3⟩)] at k
        exact B_X12_nextStand_178 hK (k := B_X12_nextStand_183 hK (k := k _ _ Fr.rf ⟨rfl, rfl, rfl⟩))
      refine B_X12_nextStand_120 hK (n121 := by omega) (kt := fun y => t167 (by omega)) (kf := fun y => ?_)
      refine B_X12_nextStand_124 hK (n126a := by omega) (kt := fun y2 => t167 (by omega)) (kf := fun y2 => ?_)
      rw [if_pos (show isDg c ∧ st < 4 by omega)] at k
      exact B_X12_nextStand_129 hK hs (b155 := by omega) (k := k _ _ (Fr.rf.u 64 _ _ (by simp)) ⟨rfl, rfl, u2_row⟩)
    have cs : st = 2 ∨ st = 3 ∨ st = 4 := by omega
    rcases cs with e | e | e
    · rw [swT_in 2 120 (by omega) (by rfl)]
      exact g120
    · rw [swT_in 3 120 (by omega) (by rfl)]
      exact g120
    · rw [swT_in 4 120 (by omega) (by rfl)]
      exact g120
  rw [if_neg z2] at k
  rw [swT_out (by simp; omega)]
  have t232 : ¬ (isDg c ∧ st < 7) → K 232 [some (vR 44), some (vI st), some (vI c), none] [] (sh, I, L) (0, 0) := fun y => by
    rw [if_neg y] at k
    have no : ¬ (5 < st ∧ c = 44 ∧ I 44 27 < 6) → K 256 [none, none, none, none] [] (sh, I, L) (0, 0) := fun y2 => by
      rw [if_neg y2] at k
      exact B_X12_nextStand_256 hK (k := B_X12_nextStand_257 hK (k := k _ _ Fr.rf ⟨rfl, hI⟩))
    refine B_X12_nextStand_232 hK (n234a := by omega) (kt := fun y2 => no (by omega)) (kf := fun y2 => ?_)
    refine B_X12_nextStand_237 hK (n240a := by omega) (kt := fun y3 => no (fun u => y3 u.2.1)) (kf := fun y3 => ?_)
    refine B_X12_nextStand_243 hK hs (n249a := by omega) (kt := fun y4 => no (by omega)) (kf := fun y4 => ?_)
    rw [if_pos (show 5 < st ∧ c = 44 ∧ I 44 27 < 6 by omega)] at k
    exact B_X12_nextStand_252 hK (k := B_X12_nextStand_257 hK (k := k _ _ Fr.rf ⟨rfl, rfl, rfl⟩))
  refine B_X12_nextStand_184 hK (n185 := by omega) (kt := fun y => t232 (by omega)) (kf := fun y => ?_)
  refine B_X12_nextStand_188 hK (n191a := by omega) (kt := fun y2 => t232 (by omega)) (kf := fun y2 => ?_)
  rw [if_pos (show isDg c ∧ st < 7 by omega)] at k
  exact B_X12_nextStand_194 hK hs (b220 := by omega) (k := k _ _ (Fr.rf.u 64 _ _ (by simp)) ⟨rfl, rfl, u2_row⟩)
/-- what stands keep while they are read -/
def seOK (s : seS) : Prop := (0 ≤ s.1 ∧ s.1 ≤ 7) ∧ (0 ≤ s.2.1 ∧ s.2.1 ≤ 6) ∧ (s.1 = 0 → s.2.1 < 6) ∧ (s.1 ≠ 0 → 1 ≤ s.2.1) ∧ (∀ j : Nat, (j : Int) < s.2.1 → (0 ≤ s.2.2 (3 * j) ∧ s.2.2 (3 * j) ≤ 7) ∧ (0 ≤ s.2.2 (3 * j + 1) ∧ s.2.2 (3 * j + 1) ≤ 99) ∧ 0 ≤ s.2.2 (3 * j + 2) ∧ s.2.2 (3 * j + 2) ≤ 99) ∧ (s.1 = 1 ∨ s.1 = 2 → s.2.2 (3 * s.2.1 - 2).toNat = 0) ∧ (s.1 = 3 → s.2.2 (3 * s.2.1 - 2).toNat ≤ 9) ∧ (1 ≤ s.1 → s.1 ≤ 5 → s.2.2 (3 * s.2.1 - 1).toNat = 0) ∧ (s.1 = 6 → s.2.2 (3 * s.2.1 - 1).toNat ≤ 9)
theorem seOK_st {s t : seS} {c : Int} (h : seOK s) (e : seStep s c = some t) : seOK t := by
  obtain ⟨st, many, S⟩ := s
  obtain ⟨h1, h2, h3, h4, h5, h6, h7, h8, h9⟩ := h
  dsimp only at h1 h2 h3 h4 h5 h6 h7 h8 h9
  obtain ⟨m, rfl⟩ := Int.eq_ofNat_of_zero_le h2.1
  unfold seStep at e
  dsimp only at e
  split at e
  · split at e
    · cases e
      have n0 : (3 * (m : Int)).toNat = 3 * m := by omega
      have n1 : (3 * (m : Int) + 1).toNat = 3 * m + 1 := by omega
      have n2 : (3 * (m : Int) + 2).toNat = 3 * m + 2 := by omega
      have n3 : (3 * ((m : Int) + 1) - 2).toNat = 3 * m + 1 := by omega
      have n4 : (3 * ((m : Int) + 1) - 1).toNat = 3 * m + 2 := by omega
      refine ⟨by dsimp only; omega, by dsimp only; omega, by dsimp only; omega, by dsimp only; omega, fun j hj => ?_, ?_, ?_, ?_, ?_⟩
      · dsimp only at hj ⊢
        rw [n0, n1, n2]
        have g := h5 j
        unfold up
        (repeat' split) <;> omega
      · dsimp only
        rw [n0, n1, n2, n3]
        unfold up
        (repeat' split) <;> omega
      · dsimp only
        omega
      · dsimp only
        rw [n0, n1, n2, n4]
        unfold up
        (repeat' split) <;> omega
      · dsimp only
        omega
    · cases e
  · have g4 := h4 (by assumption)
    have k1 : (3 * (m : Int) - 2).toNat = 3 * (m - 1) + 1 := by omega
    have k2 : (3 * (m : Int) - 1).toNat = 3 * (m - 1) + 2 := by omega
    have g5 := h5 (m - 1) (by omega)
    rw [k1] at h6 h7
    rw [k2] at h8 h9
    split at e
    · split at e
      · cases e
        refine ⟨by dsimp only; omega, h2, by dsimp only; omega, by dsimp only; omega, h5, ?_, ?_, ?_, ?_⟩ <;> dsimp only <;> (try rw [k1]) <;> (try rw [k2]) <;> omega
      · cases e
    · split at e
      · split at e
        · cases e
          refine ⟨by dsimp only; omega, h2, by dsimp only; omega, by dsimp only; omega, fun j hj => ?_, ?_, ?_, ?_, ?_⟩
          · dsimp only at hj ⊢
            rw [k1]
            have g := h5 j hj
            unfold up
            (repeat' split) <;> omega
          all_goals dsimp only
          all_goals (try rw [k1])
          all_goals (try rw [k2])
          all_goals unfold up
          all_goals (repeat' split) <;> omega
        · split at e
          · cases e
            refine ⟨by dsimp only; omega, h2, by dsimp only; omega, by dsimp only; omega, h5, ?_, ?_, ?_, ?_⟩ <;> dsimp only <;> (try rw [k1]) <;> (try rw [k2]) <;> omega
          · cases e
      · split at e
        · cases e
          refine ⟨by dsimp only; omega, h2, by dsimp only; omega, by dsimp only; omega, fun j hj => ?_, ?_, ?_, ?_, ?_⟩
          · dsimp only at hj ⊢
            rw [k2]
            have g := h5 j hj
            unfold up
            (repeat' split) <;> omega
          all_goals dsimp only
          all_goals (try rw [k1])
          all_goals (try rw [k2])
          all_goals unfold up
          all_goals (repeat' split) <;> omega
        · split at e
          · cases e
            refine ⟨by dsimp only; omega, h2, by dsimp only; omega, by dsimp only; omega, h5, ?_, ?_, ?_, ?_⟩ <;> dsimp only <;> (try rw [k1]) <;> (try rw [k2]) <;> omega
          · cases e
