/-! the reference reads a march -/
abbrev maS : Type := Int × Int × Int × Int × Int × (Nat → Int) × (Nat → Int) × (Nat → Int)
/-- a stretch of cells filled -/
def fil (f : Nat → Int) (o n : Nat) (v : Int) : Nat → Int := fun x => if o ≤ x ∧ x < o + n then v else f x
theorem fil_0 {f : Nat → Int} {o : Nat} {v : Int} : fil f o 0 v = f := by
  funext x
  unfold fil
  rw [if_neg (fun z => by omega)]
theorem fil_step {f : Nat → Int} {o n : Nat} {v : Int} : up (fil f o n v) (o + n) v = fil f o (n + 1) v := by
  funext x
  unfold up fil
  by_cases e : x = o + n
  · rw [if_pos e, if_pos ⟨by omega, by omega⟩]
  · rw [if_neg e]
    by_cases e2 : o ≤ x ∧ x < o + n
    · rw [if_pos e2, if_pos ⟨e2.1, by omega⟩]
    · rw [if_neg e2, if_neg (fun z => e2 ⟨z.1, by omega⟩)]
def mvOf (c : Int) : Int := if c = 102 then 1 else if c = 98 then -1 else 0
def maRest (many men ch mv : Int) (Mv Mn Tn : Nat → Int) (c : Int) : Option maS :=
  if c = 109 then some (6, many, men, ch, mv, Mv, Mn, Tn)
  else if many = 10 then none
  else if c = 99 then (if ch < 2 then some (5, many, men, ch, mv, Mv, Mn, Tn) else none)
  else if c = 102 ∨ c = 98 ∨ c = 115 then some (4, many + 1, men, ch, mvOf c, up Mv many.toNat (mvOf c), up Mn many.toNat men, Tn)
  else none
def maHead (st many men ch mv : Int) (Mv Mn Tn : Nat → Int) (c : Int) : Option maS :=
  if isDg c ∧ st < 2 ∧ (st = 1 ∨ 48 < c) then some (st + 1, many, 10 * men + c - 48, ch, mv, Mv, Mn, Tn)
  else if 0 < st ∧ c = 58 then some (9, many, men, ch, mv, Mv, Mn, Tn) else none
def maRep (many men ch mv : Int) (Mv Mn Tn : Nat → Int) (c : Int) : Option maS :=
  if c - 48 < 2 ∨ 10 < many - 1 + (c - 48) then none
  else some (3, many + (c - 49), men, ch, mv, fil Mv many.toNat (c - 49).toNat mv, fil Mn many.toNat (c - 49).toNat men, Tn)
def maStep (s : maS) (c : Int) : Option maS :=
  if s.1 < 3 then maHead s.1 s.2.1 s.2.2.1 s.2.2.2.1 s.2.2.2.2.1 s.2.2.2.2.2.1 s.2.2.2.2.2.2.1 s.2.2.2.2.2.2.2 c
  else if s.1 = 4 ∧ isDg c then maRep s.2.1 s.2.2.1 s.2.2.2.1 s.2.2.2.2.1 s.2.2.2.2.2.1 s.2.2.2.2.2.2.1 s.2.2.2.2.2.2.2 c
  else if s.1 = 5 then (if isDg c ∧ c ≠ 48 then some (3, s.2.1 + 1, s.2.2.1, s.2.2.2.1 + 1, s.2.2.2.2.1, up s.2.2.2.2.2.1 s.2.1.toNat 2, up s.2.2.2.2.2.2.1 s.2.1.toNat s.2.2.1, up s.2.2.2.2.2.2.2 s.2.2.2.1.toNat (c - 48)) else none)
  else if s.1 = 6 then (if isDg c ∧ 48 < c then some (7, s.2.1, c - 48, s.2.2.2.1, s.2.2.2.2.1, s.2.2.2.2.2.1, s.2.2.2.2.2.2.1, s.2.2.2.2.2.2.2) else none)
  else if s.1 = 7 ∧ isDg c then some (8, s.2.1, 10 * s.2.2.1 + c - 48, s.2.2.2.1, s.2.2.2.2.1, s.2.2.2.2.2.1, s.2.2.2.2.2.2.1, s.2.2.2.2.2.2.2)
  else maRest s.2.1 s.2.2.1 s.2.2.2.1 s.2.2.2.2.1 s.2.2.2.2.2.1 s.2.2.2.2.2.2.1 s.2.2.2.2.2.2.2 c
def maR (s : maS) (J : Nat → Nat → Int) : Prop := J 44 27 = s.2.1 ∧ J 44 31 = s.2.2.1 ∧ J 44 35 = s.2.2.2.1 ∧ J 44 37 = s.2.2.2.2.1 ∧ J 61 = s.2.2.2.2.2.1 ∧ J 62 = s.2.2.2.2.2.2.1 ∧ J 63 = s.2.2.2.2.2.2.2
def maOut (x : Option maS) (r : Int) (J : Nat → Nat → Int) : Prop := match x with
  | none => r = -1 ∧ inR (J 44 27)
  | some s => r = s.1 ∧ maR s J
abbrev FrM (I J : Nat → Nat → Int) : Prop := Fr [61, 62, 63] [(44, 27), (44, 31), (44, 35), (44, 37)] I J
def adI (I : Nat → Nat → Int) (mv : Int) : Nat → Nat → Int := u2 (u2 (u2 I 61 (I 44 27).toNat mv) 62 (I 44 27).toNat (I 44 31)) 44 27 (I 44 27 + 1)
theorem s_addDay {sh : oS} {I : Nat → Nat → Int} {L : Nat → Nat → Int64} {Q : oQ} (hs : Sh sh) {mv : Int} (h : 0 ≤ I 44 27 ∧ I 44 27 < 10) (k : Q none (sh, adI I mv, L)) : T_X12_addDay [vR 44, vI mv] (sh, I, L) Q := by
  refine And.intro (Nat.le_of_ble_eq_true rfl) (fun K hK => ?_)
  exact B_X12_addDay_0 hK hs (b9 := by omega) (k := k)
theorem adI_Fr {I J : Nat → Nat → Int} {mv : Int} (F : FrM I J) : FrM I (adI J mv) := ((F.u 61 _ _ (by simp)).u 62 _ _ (by simp)).u 44 27 _ (by simp)
theorem adI_61 {I : Nat → Nat → Int} {mv : Int} : adI I mv 61 = up (I 61) (I 44 27).toNat mv := by
  unfold adI
  rw [u2_oth (by decide), u2_oth (by decide), u2_row]
theorem adI_62 {I : Nat → Nat → Int} {mv : Int} : adI I mv 62 = up (I 62) (I 44 27).toNat (I 44 31) := by
  unfold adI
  rw [u2_oth (by decide), u2_row, u2_oth (by decide)]
set_option maxHeartbeats 1000000 in
theorem s_nextMarch {sh : oS} {I : Nat → Nat → Int} {L : Nat → Nat → Int64} {Q : oQ} (hs : Sh sh) {st c : Int} (hst : 0 ≤ st ∧ st ≤ 9) (hc : 0 ≤ c ∧ c ≤ 127) (hm : 0 ≤ I 44 27 ∧ I 44 27 ≤ 10) (hch : 0 ≤ I 44 35 ∧ I 44 35 ≤ 2) (h5 : st = 5 → I 44 27 < 10 ∧ I 44 35 < 2) (h4 : st = 4 → 1 ≤ I 44 27)
    (k : ∀ r J, FrM I J → maOut (maStep (st, I 44 27, I 44 31, I 44 35, I 44 37, I 61, I 62, I 63) c) r J → Q (some (vI r)) (sh, J, L)) : T_X12_nextMarch [vR 44, vI st, vI c] (sh, I, L) Q := by
  refine And.intro (Nat.le_of_ble_eq_true rfl) (fun K hK => ?_)
  have hI : inR (I 44 27) := by omega
  have rest : maStep (st, I 44 27, I 44 31, I 44 35, I 44 37, I 61, I 62, I 63) c = maRest (I 44 27) (I 44 31) (I 44 35) (I 44 37) (I 61) (I 62) (I 63) c → K 237 [some (vR 44), none, some (vI c), none, none, none] [] (sh, I, L) (0, 0) := fun e => by
    rw [e] at k
    unfold maRest at k
    refine B_X12_nextMarch_237 hK (n240a := by omega) (kt := fun h => ?_) (kf := fun h => ?_)
    rotate_left
    · rw [if_pos (Classical.not_not.1 h)] at k
      exact B_X12_nextMarch_243 hK (k := k _ _ Fr.rf ⟨rfl, rfl, rfl, rfl, rfl, rfl, rfl, rfl⟩)
    rw [if_neg h] at k
    refine B_X12_nextMarch_246 hK hs (n252a := by omega) (kt := fun h2 => ?_) (kf := fun h2 => ?_)
    rotate_left
    · rw [if_pos (Classical.not_not.1 h2)] at k
      exact B_X12_nextMarch_255 hK (k := k _ _ Fr.rf ⟨rfl, hI⟩)
    rw [if_neg h2] at k
    refine B_X12_nextMarch_257 hK (n260a := by omega) (kt := fun h3 => ?_) (kf := fun h3 => ?_)
    rotate_left
    · rw [if_pos (Classical.not_not.1 h3)] at k
      refine B_X12_nextMarch_263 hK hs (n268a := by omega) (kt := fun h6 => ?_) (kf := fun h6 => ?_)
      · rw [if_neg (show ¬ I 44 35 < 2 by omega)] at k
        exact B_X12_nextMarch_275 hK (k := B_X12_nextMarch_276 hK (k := k _ _ Fr.rf ⟨rfl, hI⟩))
      · rw [if_pos (show I 44 35 < 2 by omega)] at k
        exact B_X12_nextMarch_271 hK (k := B_X12_nextMarch_276 hK (k := k _ _ Fr.rf ⟨rfl, rfl, rfl, rfl, rfl, rfl, rfl, rfl⟩))
    rw [if_neg h3] at k
    have go : (c = 102 ∨ c = 98 ∨ c = 115) → K 297 [some (vR 44), none, some (vI c), none, none, none] [] (sh, I, L) (0, 0) := fun h6 => by
      rw [if_pos h6] at k
      have fin : ∀ v, v = mvOf c → K 319 [some (vR 44), none, none, none, none, none] [vI v, vR 44] (sh, I, L) (0, 0) := fun v hv => by
        refine B_X12_nextMarch_319 hK hs (k := ?_)
        refine s_addDay hs (by show 0 ≤ I 44 27 ∧ I 44 27 < 10; omega) ?_
        refine B_X12_nextMarch_330 hK (k := k _ _ (adI_Fr (Fr.rf.u 44 37 _ (by simp))) ⟨rfl, rfl, rfl, rfl, hv, ?_, ?_, rfl⟩)
        · rw [adI_61, hv]
          rfl
        · rw [adI_62]
          rfl
      unfold mvOf at fin
      refine B_X12_nextMarch_297 hK (n301a := by omega) (kt := fun h7 => ?_) (kf := fun h7 => ?_)
      · rw [if_neg h7] at fin
        refine B_X12_nextMarch_308 hK (n311a := by omega) (kt := fun h8 => ?_) (kf := fun h8 => ?_)
        · rw [if_neg h8] at fin
          exact B_X12_nextMarch_318 hK (k := fin 0 rfl)
        · rw [if_pos (Classical.not_not.1 h8)] at fin
          exact B_X12_nextMarch_314 hK (k := fin (-1) rfl)
      · rw [if_pos (Classical.not_not.1 h7)] at fin
        exact B_X12_nextMarch_304 hK (k := fin 1 rfl)
    refine B_X12_nextMarch_277 hK (n280a := by omega) (kt := fun h6 => go (Or.inl h6)) (kf := fun h6 => ?_)
    refine B_X12_nextMarch_283 hK (n286a := by omega) (kt := fun h7 => go (Or.inr (Or.inl h7))) (kf := fun h7 => ?_)
    refine B_X12_nextMarch_289 hK (n292a := by omega) (kt := fun h8 => go (Or.inr (Or.inr h8))) (kf := fun h8 => ?_)
    have nn : ¬ (c = 102 ∨ c = 98 ∨ c = 115) := by omega
    rw [if_neg nn] at k
    exact B_X12_nextMarch_295 hK (k := k _ _ Fr.rf ⟨rfl, hI⟩)
  have dq : maStep (st, I 44 27, I 44 31, I 44 35, I 44 37, I 61, I 62, I 63) c = (if st < 3 then maHead st (I 44 27) (I 44 31) (I 44 35) (I 44 37) (I 61) (I 62) (I 63) c
    else if st = 4 ∧ isDg c then maRep (I 44 27) (I 44 31) (I 44 35) (I 44 37) (I 61) (I 62) (I 63) c
    else if st = 5 then (if isDg c ∧ c ≠ 48 then some (3, I 44 27 + 1, I 44 31, I 44 35 + 1, I 44 37, up (I 61) (I 44 27).toNat 2, up (I 62) (I 44 27).toNat (I 44 31), up (I 63) (I 44 35).toNat (c - 48)) else none)
    else if st = 6 then (if isDg c ∧ 48 < c then some (7, I 44 27, c - 48, I 44 35, I 44 37, I 61, I 62, I 63) else none)
    else if st = 7 ∧ isDg c then some (8, I 44 27, 10 * I 44 31 + c - 48, I 44 35, I 44 37, I 61, I 62, I 63)
    else maRest (I 44 27) (I 44 31) (I 44 35) (I 44 37) (I 61) (I 62) (I 63) c) := rfl
  rw [dq] at k rest
  clear dq
  refine B_X12_nextMarch_0 hK (k := ?_)
  refine s_isDigit2 (by omega) (fun d hd => ?_)
  refine B_X12_nextMarch_4 hK (n7a := by omega) (kt := fun z => ?_) (kf := fun z => ?_)
  rotate_left
  · have z2 : st < 3 := by omega
    rw [if_pos z2] at k
    unfold maHead at k
    have t50 : ¬ (isDg c ∧ st < 2 ∧ (st = 1 ∨ 48 < c)) → K 50 [none, some (vI st), some (vI c), none, none, none] [] (sh, I, L) (0, 0) := fun y => by
      rw [if_neg y] at k
      have no : ¬ (0 < st ∧ c = 58) → K 65 [none, none, none, none, none, none] [] (sh, I, L) (0, 0) := fun y2 => by
        rw [if_neg y2] at k
        exact B_X12_nextMarch_65 hK (k := B_X12_nextMarch_66 hK (k := k _ _ Fr.rf ⟨rfl, hI⟩))
      refine B_X12_nextMarch_50 hK (n51 := by omega) (kt := fun y2 => no (by omega)) (kf := fun y2 => ?_)
      refine B_X12_nextMarch_54 hK (n57a := by omega) (kt := fun y3 => no (fun u => y3 u.2)) (kf := fun y3 => ?_)
      have y4 : 0 < st ∧ c = 58 := ⟨by omega, Classical.not_not.1 y3⟩
      rw [if_pos y4] at k
      exact B_X12_nextMarch_60 hK (k := B_X12_nextMarch_66 hK (k := k _ _ Fr.rf ⟨rfl, rfl, rfl, rfl, rfl, rfl, rfl, rfl⟩))
    have t30 : (isDg c ∧ st < 2 ∧ (st = 1 ∨ 48 < c)) → K 30 [some (vR 44), some (vI st), some (vI c), none, none, none] [] (sh, I, L) (0, 0) := fun y => by
      rw [if_pos y] at k
      exact B_X12_nextMarch_30 hK hs (k := k _ _ (Fr.rf.u 44 31 _ (by simp)) ⟨rfl, rfl, rfl, rfl, rfl, rfl, rfl, rfl⟩)
    refine B_X12_nextMarch_10 hK (n11 := by omega) (kt := fun y => t50 (by omega)) (kf := fun y => ?_)
    refine B_X12_nextMarch_14 hK (n16a := by omega) (kt := fun y2 => t50 (by omega)) (kf := fun y2 => ?_)
    refine B_X12_nextMarch_19 hK (n21a := by omega) (kt := fun y3 => t30 (by omega)) (kf := fun y3 => ?_)
    exact B_X12_nextMarch_24 hK (n27a := by omega) (kt := fun y4 => t50 (by omega)) (kf := fun y4 => t30 (by omega))
  have z2 : ¬ st < 3 := by omega
  rw [if_neg z2] at k rest
  have t130 : ¬ (st = 4 ∧ isDg c) → K 130 [some (vR 44), some (vI st), some (vI c), some (vI d), none, none] [] (sh, I, L) (0, 0) := fun y => by
    rw [if_neg y] at k rest
    refine B_X12_nextMarch_130 hK (n132a := by omega) (kt := fun y5 => ?_) (kf := fun y5 => ?_)
    rotate_left
    · have y5 := Classical.not_not.1 y5
      rw [if_pos y5] at k
      have no : ¬ (isDg c ∧ c ≠ 48) → K 145 [none, none, none, none, none, none] [] (sh, I, L) (0, 0) := fun u => by
        rw [if_neg u] at k
        exact B_X12_nextMarch_145 hK (k := k _ _ Fr.rf ⟨rfl, hI⟩)
      refine B_X12_nextMarch_135 hK (n136 := by omega) (kt := fun u => no (by omega)) (kf := fun u => ?_)
      refine B_X12_nextMarch_139 hK (n142a := by omega) (kt := fun u2 => ?_) (kf := fun u2 => no (by omega))
      have u3 : isDg c ∧ c ≠ 48 := by omega
      rw [if_pos u3] at k
      have g5 := h5 y5
      refine B_X12_nextMarch_147 hK hs (b159 := by omega) (k := ?_)
      refine s_addDay hs (by show 0 ≤ I 44 27 ∧ I 44 27 < 10; omega) ?_
      refine B_X12_nextMarch_175 hK (k := k _ _ (adI_Fr ((Fr.rf.u 63 _ _ (by simp)).u 44 35 _ (by simp))) ⟨rfl, rfl, rfl, rfl, rfl, ?_, ?_, ?_⟩)
      · rw [adI_61]
        rfl
      · rw [adI_62]
        rfl
      · unfold adI
        rw [u2_oth (by decide), u2_oth (by decide), u2_oth (by decide), u2_oth (by decide), u2_row]
    rw [if_neg y5] at k rest
    refine B_X12_nextMarch_177 hK (n180a := by omega) (kt := fun y6 => ?_) (kf := fun y6 => ?_)
    rotate_left
    · rw [if_pos (Classical.not_not.1 y6)] at k
      have no : ¬ (isDg c ∧ 48 < c) → K 206 [none, none, none, none, none, none] [] (sh, u2 I 44 31 (c - 48), L) (0, 0) := fun u => by
        rw [if_neg u] at k
        exact B_X12_nextMarch_206 hK (k := B_X12_nextMarch_207 hK (k := k _ _ (Fr.rf.u 44 31 _ (by simp)) ⟨rfl, hI⟩))
      refine B_X12_nextMarch_183 hK hs (n192 := by omega) (kt := fun u => no (by omega)) (kf := fun u => ?_)
      refine B_X12_nextMarch_195 hK (n198a := by omega) (kt := fun u2 => no (by omega)) (kf := fun u2 => ?_)
      have u3 : isDg c ∧ 48 < c := by omega
      rw [if_pos u3] at k
      exact B_X12_nextMarch_201 hK (k := B_X12_nextMarch_207 hK (k := k _ _ (Fr.rf.u 44 31 _ (by simp)) ⟨rfl, rfl, rfl, rfl, rfl, rfl, rfl, rfl⟩))
    rw [if_neg y6] at k rest
    have t237 : ¬ (st = 7 ∧ isDg c) → K 237 [some (vR 44), none, some (vI c), none, none, none] [] (sh, I, L) (0, 0) := fun y7 => by
      rw [if_neg y7] at rest
      exact rest rfl
    refine B_X12_nextMarch_208 hK (n211a := by omega) (kt := fun y7 => t237 (fun u => y7 u.1)) (kf := fun y7 => ?_)
    refine B_X12_nextMarch_214 hK (n215 := by omega) (kt := fun y8 => t237 (by omega)) (kf := fun y8 => ?_)
    have y9 : st = 7 ∧ isDg c := ⟨Classical.not_not.1 y7, by omega⟩
    rw [if_pos y9] at k
    exact B_X12_nextMarch_218 hK hs (k := k _ _ (Fr.rf.u 44 31 _ (by simp)) ⟨rfl, rfl, rfl, rfl, rfl, rfl, rfl, rfl⟩)
  refine B_X12_nextMarch_67 hK (n69a := by omega) (kt := fun y => t130 (fun u => y u.1)) (kf := fun y => ?_)
  refine B_X12_nextMarch_72 hK (n73 := by omega) (kt := fun y2 => t130 (by omega)) (kf := fun y2 => ?_)
  have y3 : st = 4 ∧ isDg c := ⟨Classical.not_not.1 y, by omega⟩
  have g4 := h4 y3.1
  rw [if_pos y3] at k
  unfold maRep at k
  have no : (c - 48 < 2 ∨ 10 < I 44 27 - 1 + (c - 48)) → K 102 [none, none, none, none, none, none] [] (sh, I, L) (0, 0) := fun u => by
    rw [if_pos u] at k
    exact B_X12_nextMarch_102 hK (k := k _ _ Fr.rf ⟨rfl, hI⟩)
  refine B_X12_nextMarch_76 hK (n85a := by omega) (kt := fun u => no (Or.inl u)) (kf := fun u => ?_)
  refine B_X12_nextMarch_88 hK hs (n99a := by omega) (kt := fun u2 => ?_) (kf := fun u2 => no (Or.inr (by omega)))
  have u3 : ¬ (c - 48 < 2 ∨ 10 < I 44 27 - 1 + (c - 48)) := by omega
  rw [if_neg u3] at k
  refine B_X12_nextMarch_104 hK (k := ?_)
  have lp : ∀ (n y : Nat) (J : Nat → Nat → Int) (x : Int), x = (y : Int) + 1 → x + n = c - 48 → FrM I J → J 44 27 = I 44 27 + y → J 44 31 = I 44 31 → J 44 35 = I 44 35 → J 44 37 = I 44 37 → J 61 = fil (I 61) (I 44 27).toNat y (I 44 37) → J 62 = fil (I 62) (I 44 27).toNat y (I 44 31) → J 63 = I 63 → K 107 [some (vR 44), none, none, none, some (vI (c - 48)), some (vI x)] [] (sh, J, L) (0, 0) := by
    intro n
    induction n with
    | zero =>
      intro y J x hx hn FJ j1 j2 j3 j4 j5 j6 j7
      refine B_X12_nextMarch_107 hK (n111a := by omega) (n111b := by omega) (kt := fun _ => ?_) (kf := fun t => absurd (by omega) t)
      have ey : y = (c - 49).toNat := by omega
      subst ey
      refine B_X12_nextMarch_128 hK (k := k _ _ FJ ⟨rfl, ?_, j2, j3, j4, j5, j6, j7⟩)
      rw [j1]
      show I 44 27 + ((c - 49).toNat : Int) = I 44 27 + (c - 49)
      omega
    | succ n ih =>
      intro y J x hx hn FJ j1 j2 j3 j4 j5 j6 j7
      refine B_X12_nextMarch_107 hK (n111a := by omega) (n111b := by omega) (kt := fun t => absurd t (by omega)) (kf := fun _ => ?_)
      refine B_X12_nextMarch_114 hK hs (k := ?_)
      refine s_addDay hs (by omega) ?_
      refine B_X12_nextMarch_122 hK (k := ?_)
      refine ih (y + 1) _ (x + 1) (by omega) (by omega) (adI_Fr FJ) ?_ j2 j3 j4 ?_ ?_ ?_
      · show J 44 27 + 1 = _
        omega
      · rw [adI_61, j5, j1, j4, show (I 44 27 + (y : Int)).toNat = (I 44 27).toNat + y by omega, fil_step]
      · rw [adI_62, j6, j1, j2, show (I 44 27 + (y : Int)).toNat = (I 44 27).toNat + y by omega, fil_step]
      · rw [← j7]
        unfold adI
        rw [u2_oth (by decide), u2_oth (by decide), u2_oth (by decide)]
  exact lp (c - 49).toNat 0 I 1 (by decide) (by omega) Fr.rf (by omega) rfl rfl rfl fil_0.symm fil_0.symm rfl
