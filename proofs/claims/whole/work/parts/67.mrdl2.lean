/-! the reference reads a land -/
set_option maxHeartbeats 4000000 in
theorem s_nextLand {sh : oS} {I : Nat → Nat → Int} {L : Nat → Nat → Int64} {Q : oQ} (hs : Sh sh) {st c : Int} (hst : 0 ≤ st ∧ st ≤ 16) (hc : 0 ≤ c ∧ c ≤ 127) (hm : (0 ≤ I 44 27 ∧ I 44 27 ≤ 8) ∧ (st = 0 → I 44 27 ≤ 7) ∧ (st ≠ 0 → 1 ≤ I 44 27)) (k : ∀ r J, FrL I J → laOut (laStep (st, I 44 27, I 58, I 59, I 60) c) r J → Q (some (vI r)) (sh, J, L)) : T_X12_nextLand [vR 44, vI st, vI c] (sh, I, L) Q := by
  have hI : inR (I 44 27) := by omega
  refine And.intro (Nat.le_of_ble_eq_true rfl) (fun K hK => ?_)
  refine B_X12_nextLand_0 hK (k := ?_)
  refine s_isDigit2 (by omega) (fun r hr => ?_)
  refine B_X12_nextLand_4 hK (n7a := by omega) (kt := fun h4 => ?_) (kf := fun h4 => ?_)
  · refine B_X12_nextLand_17 hK (k := ?_) (n18 := by omega)
    have cs : st = 5 ∨ st = 6 ∨ st = 7 ∨ st = 8 ∨ st = 9 ∨ st = 10 ∨ st = 11 ∨ st = 12 ∨ st = 13 ∨ st = 14 ∨ st = 15 ∨ st = 16 := by omega
    rcases cs with e | e | e | e | e | e | e | e | e | e | e | e
    · rw [swT_in 0 80 (by omega) (by rfl)]
      refine hK.2 [false, false, true, false] _ _ _ _ _ ?_
      show K 80 [none, none, some (vI c), none] [] (sh, I, L) (0, 0)
      refine B_X12_nextLand_80 hK (n83a := by omega) (kt := fun h80 => ?_) (kf := fun h80 => ?_)
      · refine B_X12_nextLand_91 hK (k := ?_)
        refine B_X12_nextLand_92 hK (k := ?_)
        refine k _ _ (by first | exact Fr.rf | exact Fr.rf.u 60 _ _ (by simp)) ?_
        show laOut (if st < 5 then _ else laNu st (I 44 27) (I 58) (I 59) (I 60) c) _ _
        rw [if_neg (by omega)]
        unfold laNu
        (repeat' split) <;> first | omega | exact ⟨by first | rfl | omega, rfl, rfl, rfl, by first | rfl | exact u2_row⟩ | exact ⟨rfl, hI⟩
      · refine B_X12_nextLand_86 hK (k := ?_)
        refine B_X12_nextLand_92 hK (k := ?_)
        refine k _ _ (by first | exact Fr.rf | exact Fr.rf.u 60 _ _ (by simp)) ?_
        show laOut (if st < 5 then _ else laNu st (I 44 27) (I 58) (I 59) (I 60) c) _ _
        rw [if_neg (by omega)]
        unfold laNu
        (repeat' split) <;> first | omega | exact ⟨by first | rfl | omega, rfl, rfl, rfl, by first | rfl | exact u2_row⟩ | exact ⟨rfl, hI⟩
    · rw [swT_in 1 93 (by omega) (by rfl)]
      refine hK.2 [true, false, true, true] _ _ _ _ _ ?_
      show K 93 [some (vR 44), none, some (vI c), some (vI r)] [] (sh, I, L) (0, 0)
      refine B_X12_nextLand_93 hK hs (n104 := by omega) (kt := fun h93 => ?_) (kf := fun h93 => ?_)
      · refine B_X12_nextLand_118 hK (k := ?_)
        refine B_X12_nextLand_119 hK (k := ?_)
        refine k _ _ (by first | exact Fr.rf | exact Fr.rf.u 60 _ _ (by simp)) ?_
        show laOut (if st < 5 then _ else laNu st (I 44 27) (I 58) (I 59) (I 60) c) _ _
        rw [if_neg (by omega)]
        unfold laNu
        (repeat' split) <;> first | omega | exact ⟨by first | rfl | omega, rfl, rfl, rfl, by first | rfl | exact u2_row⟩ | exact ⟨rfl, hI⟩
      · refine B_X12_nextLand_107 hK (n110a := by omega) (kt := fun h107 => ?_) (kf := fun h107 => ?_)
        · refine B_X12_nextLand_118 hK (k := ?_)
          refine B_X12_nextLand_119 hK (k := ?_)
          refine k _ _ (by first | exact Fr.rf | exact Fr.rf.u 60 _ _ (by simp)) ?_
          show laOut (if st < 5 then _ else laNu st (I 44 27) (I 58) (I 59) (I 60) c) _ _
          rw [if_neg (by omega)]
          unfold laNu
          (repeat' split) <;> first | omega | exact ⟨by first | rfl | omega, rfl, rfl, rfl, by first | rfl | exact u2_row⟩ | exact ⟨rfl, hI⟩
        · refine B_X12_nextLand_113 hK (k := ?_)
          refine B_X12_nextLand_119 hK (k := ?_)
          refine k _ _ (by first | exact Fr.rf | exact Fr.rf.u 60 _ _ (by simp)) ?_
          show laOut (if st < 5 then _ else laNu st (I 44 27) (I 58) (I 59) (I 60) c) _ _
          rw [if_neg (by omega)]
          unfold laNu
          (repeat' split) <;> first | omega | exact ⟨by first | rfl | omega, rfl, rfl, rfl, by first | rfl | exact u2_row⟩ | exact ⟨rfl, hI⟩
    · rw [swT_in 2 120 (by omega) (by rfl)]
      refine B_X12_nextLand_120 hK (n123a := by omega) (kt := fun h120 => ?_) (kf := fun h120 => ?_)
      · refine B_X12_nextLand_153 hK (n156a := by omega) (kt := fun h153 => ?_) (kf := fun h153 => ?_)
        · refine B_X12_nextLand_164 hK (k := ?_)
          refine B_X12_nextLand_165 hK (k := ?_)
          refine k _ _ (by first | exact Fr.rf | exact Fr.rf.u 60 _ _ (by simp)) ?_
          show laOut (if st < 5 then _ else laNu st (I 44 27) (I 58) (I 59) (I 60) c) _ _
          rw [if_neg (by omega)]
          unfold laNu
          (repeat' split) <;> first | omega | exact ⟨by first | rfl | omega, rfl, rfl, rfl, by first | rfl | exact u2_row⟩ | exact ⟨rfl, hI⟩
        · refine B_X12_nextLand_159 hK (k := ?_)
          refine B_X12_nextLand_165 hK (k := ?_)
          refine k _ _ (by first | exact Fr.rf | exact Fr.rf.u 60 _ _ (by simp)) ?_
          show laOut (if st < 5 then _ else laNu st (I 44 27) (I 58) (I 59) (I 60) c) _ _
          rw [if_neg (by omega)]
          unfold laNu
          (repeat' split) <;> first | omega | exact ⟨by first | rfl | omega, rfl, rfl, rfl, by first | rfl | exact u2_row⟩ | exact ⟨rfl, hI⟩
      · refine B_X12_nextLand_126 hK (n127 := by omega) (kt := fun h126 => ?_) (kf := fun h126 => ?_)
        · refine B_X12_nextLand_153 hK (n156a := by omega) (kt := fun h153 => ?_) (kf := fun h153 => ?_)
          · refine B_X12_nextLand_164 hK (k := ?_)
            refine B_X12_nextLand_165 hK (k := ?_)
            refine k _ _ (by first | exact Fr.rf | exact Fr.rf.u 60 _ _ (by simp)) ?_
            show laOut (if st < 5 then _ else laNu st (I 44 27) (I 58) (I 59) (I 60) c) _ _
            rw [if_neg (by omega)]
            unfold laNu
            (repeat' split) <;> first | omega | exact ⟨by first | rfl | omega, rfl, rfl, rfl, by first | rfl | exact u2_row⟩ | exact ⟨rfl, hI⟩
          · refine B_X12_nextLand_159 hK (k := ?_)
            refine B_X12_nextLand_165 hK (k := ?_)
            refine k _ _ (by first | exact Fr.rf | exact Fr.rf.u 60 _ _ (by simp)) ?_
            show laOut (if st < 5 then _ else laNu st (I 44 27) (I 58) (I 59) (I 60) c) _ _
            rw [if_neg (by omega)]
            unfold laNu
            (repeat' split) <;> first | omega | exact ⟨by first | rfl | omega, rfl, rfl, rfl, by first | rfl | exact u2_row⟩ | exact ⟨rfl, hI⟩
        · refine B_X12_nextLand_130 hK hs (k := ?_)
          refine k _ _ (by first | exact Fr.rf | exact Fr.rf.u 60 _ _ (by simp)) ?_
          show laOut (if st < 5 then _ else laNu st (I 44 27) (I 58) (I 59) (I 60) c) _ _
          rw [if_neg (by omega)]
          unfold laNu
          (repeat' split) <;> first | omega | exact ⟨by first | rfl | omega, rfl, rfl, rfl, by first | rfl | exact u2_row⟩ | exact ⟨rfl, hI⟩
    · rw [swT_in 3 120 (by omega) (by rfl)]
      refine B_X12_nextLand_120 hK (n123a := by omega) (kt := fun h120 => ?_) (kf := fun h120 => ?_)
      · refine B_X12_nextLand_153 hK (n156a := by omega) (kt := fun h153 => ?_) (kf := fun h153 => ?_)
        · refine B_X12_nextLand_164 hK (k := ?_)
          refine B_X12_nextLand_165 hK (k := ?_)
          refine k _ _ (by first | exact Fr.rf | exact Fr.rf.u 60 _ _ (by simp)) ?_
          show laOut (if st < 5 then _ else laNu st (I 44 27) (I 58) (I 59) (I 60) c) _ _
          rw [if_neg (by omega)]
          unfold laNu
          (repeat' split) <;> first | omega | exact ⟨by first | rfl | omega, rfl, rfl, rfl, by first | rfl | exact u2_row⟩ | exact ⟨rfl, hI⟩
        · refine B_X12_nextLand_159 hK (k := ?_)
          refine B_X12_nextLand_165 hK (k := ?_)
          refine k _ _ (by first | exact Fr.rf | exact Fr.rf.u 60 _ _ (by simp)) ?_
          show laOut (if st < 5 then _ else laNu st (I 44 27) (I 58) (I 59) (I 60) c) _ _
          rw [if_neg (by omega)]
          unfold laNu
          (repeat' split) <;> first | omega | exact ⟨by first | rfl | omega, rfl, rfl, rfl, by first | rfl | exact u2_row⟩ | exact ⟨rfl, hI⟩
      · refine B_X12_nextLand_126 hK (n127 := by omega) (kt := fun h126 => ?_) (kf := fun h126 => ?_)
        · refine B_X12_nextLand_153 hK (n156a := by omega) (kt := fun h153 => ?_) (kf := fun h153 => ?_)
          · refine B_X12_nextLand_164 hK (k := ?_)
            refine B_X12_nextLand_165 hK (k := ?_)
            refine k _ _ (by first | exact Fr.rf | exact Fr.rf.u 60 _ _ (by simp)) ?_
            show laOut (if st < 5 then _ else laNu st (I 44 27) (I 58) (I 59) (I 60) c) _ _
            rw [if_neg (by omega)]
            unfold laNu
            (repeat' split) <;> first | omega | exact ⟨by first | rfl | omega, rfl, rfl, rfl, by first | rfl | exact u2_row⟩ | exact ⟨rfl, hI⟩
          · refine B_X12_nextLand_159 hK (k := ?_)
            refine B_X12_nextLand_165 hK (k := ?_)
            refine k _ _ (by first | exact Fr.rf | exact Fr.rf.u 60 _ _ (by simp)) ?_
            show laOut (if st < 5 then _ else laNu st (I 44 27) (I 58) (I 59) (I 60) c) _ _
            rw [if_neg (by omega)]
            unfold laNu
            (repeat' split) <;> first | omega | exact ⟨by first | rfl | omega, rfl, rfl, rfl, by first | rfl | exact u2_row⟩ | exact ⟨rfl, hI⟩
        · refine B_X12_nextLand_130 hK hs (k := ?_)
          refine k _ _ (by first | exact Fr.rf | exact Fr.rf.u 60 _ _ (by simp)) ?_
          show laOut (if st < 5 then _ else laNu st (I 44 27) (I 58) (I 59) (I 60) c) _ _
          rw [if_neg (by omega)]
          unfold laNu
          (repeat' split) <;> first | omega | exact ⟨by first | rfl | omega, rfl, rfl, rfl, by first | rfl | exact u2_row⟩ | exact ⟨rfl, hI⟩
    · rw [swT_in 4 166 (by omega) (by rfl)]
      refine hK.2 [true, false, true, true] _ _ _ _ _ ?_
      show K 166 [some (vR 44), none, some (vI c), some (vI r)] [] (sh, I, L) (0, 0)
      refine B_X12_nextLand_166 hK hs (n177 := by omega) (kt := fun h166 => ?_) (kf := fun h166 => ?_)
      · refine B_X12_nextLand_185 hK (k := ?_)
        refine B_X12_nextLand_186 hK (k := ?_)
        refine k _ _ (by first | exact Fr.rf | exact Fr.rf.u 60 _ _ (by simp)) ?_
        show laOut (if st < 5 then _ else laNu st (I 44 27) (I 58) (I 59) (I 60) c) _ _
        rw [if_neg (by omega)]
        unfold laNu
        (repeat' split) <;> first | omega | exact ⟨by first | rfl | omega, rfl, rfl, rfl, by first | rfl | exact u2_row⟩ | exact ⟨rfl, hI⟩
      · refine B_X12_nextLand_180 hK (k := ?_)
        refine B_X12_nextLand_186 hK (k := ?_)
        refine k _ _ (by first | exact Fr.rf | exact Fr.rf.u 60 _ _ (by simp)) ?_
        show laOut (if st < 5 then _ else laNu st (I 44 27) (I 58) (I 59) (I 60) c) _ _
        rw [if_neg (by omega)]
        unfold laNu
        (repeat' split) <;> first | omega | exact ⟨by first | rfl | omega, rfl, rfl, rfl, by first | rfl | exact u2_row⟩ | exact ⟨rfl, hI⟩
    · rw [swT_in 5 187 (by omega) (by rfl)]
      refine hK.2 [false, false, true, false] _ _ _ _ _ ?_
      show K 187 [none, none, some (vI c), none] [] (sh, I, L) (0, 0)
      refine B_X12_nextLand_187 hK (n190a := by omega) (kt := fun h187 => ?_) (kf := fun h187 => ?_)
      · refine B_X12_nextLand_198 hK (k := ?_)
        refine B_X12_nextLand_199 hK (k := ?_)
        refine k _ _ (by first | exact Fr.rf | exact Fr.rf.u 60 _ _ (by simp)) ?_
        show laOut (if st < 5 then _ else laNu st (I 44 27) (I 58) (I 59) (I 60) c) _ _
        rw [if_neg (by omega)]
        unfold laNu
        (repeat' split) <;> first | omega | exact ⟨by first | rfl | omega, rfl, rfl, rfl, by first | rfl | exact u2_row⟩ | exact ⟨rfl, hI⟩
      · refine B_X12_nextLand_193 hK (k := ?_)
        refine B_X12_nextLand_199 hK (k := ?_)
        refine k _ _ (by first | exact Fr.rf | exact Fr.rf.u 60 _ _ (by simp)) ?_
        show laOut (if st < 5 then _ else laNu st (I 44 27) (I 58) (I 59) (I 60) c) _ _
        rw [if_neg (by omega)]
        unfold laNu
        (repeat' split) <;> first | omega | exact ⟨by first | rfl | omega, rfl, rfl, rfl, by first | rfl | exact u2_row⟩ | exact ⟨rfl, hI⟩
    · rw [swT_in 6 200 (by omega) (by rfl)]
      refine hK.2 [true, false, true, true] _ _ _ _ _ ?_
      show K 200 [some (vR 44), none, some (vI c), some (vI r)] [] (sh, I, L) (0, 0)
      refine B_X12_nextLand_200 hK hs (n211 := by omega) (kt := fun h200 => ?_) (kf := fun h200 => ?_)
      · refine B_X12_nextLand_225 hK (k := ?_)
        refine B_X12_nextLand_226 hK (k := ?_)
        refine k _ _ (by first | exact Fr.rf | exact Fr.rf.u 60 _ _ (by simp)) ?_
        show laOut (if st < 5 then _ else laNu st (I 44 27) (I 58) (I 59) (I 60) c) _ _
        rw [if_neg (by omega)]
        unfold laNu
        (repeat' split) <;> first | omega | exact ⟨by first | rfl | omega, rfl, rfl, rfl, by first | rfl | exact u2_row⟩ | exact ⟨rfl, hI⟩
      · refine B_X12_nextLand_214 hK (n217a := by omega) (kt := fun h214 => ?_) (kf := fun h214 => ?_)
        · refine B_X12_nextLand_225 hK (k := ?_)
          refine B_X12_nextLand_226 hK (k := ?_)
          refine k _ _ (by first | exact Fr.rf | exact Fr.rf.u 60 _ _ (by simp)) ?_
          show laOut (if st < 5 then _ else laNu st (I 44 27) (I 58) (I 59) (I 60) c) _ _
          rw [if_neg (by omega)]
          unfold laNu
          (repeat' split) <;> first | omega | exact ⟨by first | rfl | omega, rfl, rfl, rfl, by first | rfl | exact u2_row⟩ | exact ⟨rfl, hI⟩
        · refine B_X12_nextLand_220 hK (k := ?_)
          refine B_X12_nextLand_226 hK (k := ?_)
          refine k _ _ (by first | exact Fr.rf | exact Fr.rf.u 60 _ _ (by simp)) ?_
          show laOut (if st < 5 then _ else laNu st (I 44 27) (I 58) (I 59) (I 60) c) _ _
          rw [if_neg (by omega)]
          unfold laNu
          (repeat' split) <;> first | omega | exact ⟨by first | rfl | omega, rfl, rfl, rfl, by first | rfl | exact u2_row⟩ | exact ⟨rfl, hI⟩
    · rw [swT_in 7 227 (by omega) (by rfl)]
      refine hK.2 [false, false, true, false] _ _ _ _ _ ?_
      show K 227 [none, none, some (vI c), none] [] (sh, I, L) (0, 0)
      refine B_X12_nextLand_227 hK (n230a := by omega) (kt := fun h227 => ?_) (kf := fun h227 => ?_)
      · refine B_X12_nextLand_238 hK (k := ?_)
        refine B_X12_nextLand_239 hK (k := ?_)
        refine k _ _ (by first | exact Fr.rf | exact Fr.rf.u 60 _ _ (by simp)) ?_
        show laOut (if st < 5 then _ else laNu st (I 44 27) (I 58) (I 59) (I 60) c) _ _
        rw [if_neg (by omega)]
        unfold laNu
        (repeat' split) <;> first | omega | exact ⟨by first | rfl | omega, rfl, rfl, rfl, by first | rfl | exact u2_row⟩ | exact ⟨rfl, hI⟩
      · refine B_X12_nextLand_233 hK (k := ?_)
        refine B_X12_nextLand_239 hK (k := ?_)
        refine k _ _ (by first | exact Fr.rf | exact Fr.rf.u 60 _ _ (by simp)) ?_
        show laOut (if st < 5 then _ else laNu st (I 44 27) (I 58) (I 59) (I 60) c) _ _
        rw [if_neg (by omega)]
        unfold laNu
        (repeat' split) <;> first | omega | exact ⟨by first | rfl | omega, rfl, rfl, rfl, by first | rfl | exact u2_row⟩ | exact ⟨rfl, hI⟩
    · rw [swT_in 8 242 (by omega) (by rfl)]
      refine B_X12_nextLand_242 hK (n243 := by omega) (kt := fun h242 => ?_) (kf := fun h242 => ?_)
      · refine B_X12_nextLand_266 hK (n267 := by omega) (kt := fun h266 => ?_) (kf := fun h266 => ?_)
        · refine B_X12_nextLand_276 hK (k := ?_)
          refine B_X12_nextLand_277 hK (k := ?_)
          refine k _ _ (by first | exact Fr.rf | exact Fr.rf.u 60 _ _ (by simp)) ?_
          show laOut (if st < 5 then _ else laNu st (I 44 27) (I 58) (I 59) (I 60) c) _ _
          rw [if_neg (by omega)]
          unfold laNu
          (repeat' split) <;> first | omega | exact ⟨by first | rfl | omega, rfl, rfl, rfl, by first | rfl | exact u2_row⟩ | exact ⟨rfl, hI⟩
        · refine B_X12_nextLand_270 hK (k := ?_)
          refine B_X12_nextLand_277 hK (k := ?_)
          refine k _ _ (by first | exact Fr.rf | exact Fr.rf.u 60 _ _ (by simp)) ?_
          show laOut (if st < 5 then _ else laNu st (I 44 27) (I 58) (I 59) (I 60) c) _ _
          rw [if_neg (by omega)]
          unfold laNu
          (repeat' split) <;> first | omega | exact ⟨by first | rfl | omega, rfl, rfl, rfl, by first | rfl | exact u2_row⟩ | exact ⟨rfl, hI⟩
      · refine B_X12_nextLand_246 hK hs (k := ?_)
        refine B_X12_nextLand_266 hK (n267 := by omega) (kt := fun h266 => ?_) (kf := fun h266 => ?_)
        · refine B_X12_nextLand_276 hK (k := ?_)
          refine B_X12_nextLand_277 hK (k := ?_)
          refine k _ _ (by first | exact Fr.rf | exact Fr.rf.u 60 _ _ (by simp)) ?_
          show laOut (if st < 5 then _ else laNu st (I 44 27) (I 58) (I 59) (I 60) c) _ _
          rw [if_neg (by omega)]
          unfold laNu
          (repeat' split) <;> first | omega | exact ⟨by first | rfl | omega, rfl, rfl, rfl, by first | rfl | exact u2_row⟩ | exact ⟨rfl, hI⟩
        · refine B_X12_nextLand_270 hK (k := ?_)
          refine B_X12_nextLand_277 hK (k := ?_)
          refine k _ _ (by first | exact Fr.rf | exact Fr.rf.u 60 _ _ (by simp)) ?_
          show laOut (if st < 5 then _ else laNu st (I 44 27) (I 58) (I 59) (I 60) c) _ _
          rw [if_neg (by omega)]
          unfold laNu
          (repeat' split) <;> first | omega | exact ⟨by first | rfl | omega, rfl, rfl, rfl, by first | rfl | exact u2_row⟩ | exact ⟨rfl, hI⟩
    · rw [swT_in 9 242 (by omega) (by rfl)]
      refine B_X12_nextLand_242 hK (n243 := by omega) (kt := fun h242 => ?_) (kf := fun h242 => ?_)
      · refine B_X12_nextLand_266 hK (n267 := by omega) (kt := fun h266 => ?_) (kf := fun h266 => ?_)
        · refine B_X12_nextLand_276 hK (k := ?_)
          refine B_X12_nextLand_277 hK (k := ?_)
          refine k _ _ (by first | exact Fr.rf | exact Fr.rf.u 60 _ _ (by simp)) ?_
          show laOut (if st < 5 then _ else laNu st (I 44 27) (I 58) (I 59) (I 60) c) _ _
          rw [if_neg (by omega)]
          unfold laNu
          (repeat' split) <;> first | omega | exact ⟨by first | rfl | omega, rfl, rfl, rfl, by first | rfl | exact u2_row⟩ | exact ⟨rfl, hI⟩
        · refine B_X12_nextLand_270 hK (k := ?_)
          refine B_X12_nextLand_277 hK (k := ?_)
          refine k _ _ (by first | exact Fr.rf | exact Fr.rf.u 60 _ _ (by simp)) ?_
          show laOut (if st < 5 then _ else laNu st (I 44 27) (I 58) (I 59) (I 60) c) _ _
          rw [if_neg (by omega)]
          unfold laNu
          (repeat' split) <;> first | omega | exact ⟨by first | rfl | omega, rfl, rfl, rfl, by first | rfl | exact u2_row⟩ | exact ⟨rfl, hI⟩
      · refine B_X12_nextLand_246 hK hs (k := ?_)
        refine B_X12_nextLand_266 hK (n267 := by omega) (kt := fun h266 => ?_) (kf := fun h266 => ?_)
        · refine B_X12_nextLand_276 hK (k := ?_)
          refine B_X12_nextLand_277 hK (k := ?_)
          refine k _ _ (by first | exact Fr.rf | exact Fr.rf.u 60 _ _ (by simp)) ?_
          show laOut (if st < 5 then _ else laNu st (I 44 27) (I 58) (I 59) (I 60) c) _ _
          rw [if_neg (by omega)]
          unfold laNu
          (repeat' split) <;> first | omega | exact ⟨by first | rfl | omega, rfl, rfl, rfl, by first | rfl | exact u2_row⟩ | exact ⟨rfl, hI⟩
        · refine B_X12_nextLand_270 hK (k := ?_)
          refine B_X12_nextLand_277 hK (k := ?_)
          refine k _ _ (by first | exact Fr.rf | exact Fr.rf.u 60 _ _ (by simp)) ?_
          show laOut (if st < 5 then _ else laNu st (I 44 27) (I 58) (I 59) (I 60) c) _ _
          rw [if_neg (by omega)]
          unfold laNu
          (repeat' split) <;> first | omega | exact ⟨by first | rfl | omega, rfl, rfl, rfl, by first | rfl | exact u2_row⟩ | exact ⟨rfl, hI⟩
    · rw [swT_in 10 242 (by omega) (by rfl)]
      refine B_X12_nextLand_242 hK (n243 := by omega) (kt := fun h242 => ?_) (kf := fun h242 => ?_)
      · refine B_X12_nextLand_266 hK (n267 := by omega) (kt := fun h266 => ?_) (kf := fun h266 => ?_)
        · refine B_X12_nextLand_276 hK (k := ?_)
          refine B_X12_nextLand_277 hK (k := ?_)
          refine k _ _ (by first | exact Fr.rf | exact Fr.rf.u 60 _ _ (by simp)) ?_
          show laOut (if st < 5 then _ else laNu st (I 44 27) (I 58) (I 59) (I 60) c) _ _
          rw [if_neg (by omega)]
          unfold laNu
          (repeat' split) <;> first | omega | exact ⟨by first | rfl | omega, rfl, rfl, rfl, by first | rfl | exact u2_row⟩ | exact ⟨rfl, hI⟩
        · refine B_X12_nextLand_270 hK (k := ?_)
          refine B_X12_nextLand_277 hK (k := ?_)
          refine k _ _ (by first | exact Fr.rf | exact Fr.rf.u 60 _ _ (by simp)) ?_
          show laOut (if st < 5 then _ else laNu st (I 44 27) (I 58) (I 59) (I 60) c) _ _
          rw [if_neg (by omega)]
          unfold laNu
          (repeat' split) <;> first | omega | exact ⟨by first | rfl | omega, rfl, rfl, rfl, by first | rfl | exact u2_row⟩ | exact ⟨rfl, hI⟩
      · refine B_X12_nextLand_246 hK hs (k := ?_)
        refine B_X12_nextLand_266 hK (n267 := by omega) (kt := fun h266 => ?_) (kf := fun h266 => ?_)
        · refine B_X12_nextLand_276 hK (k := ?_)
          refine B_X12_nextLand_277 hK (k := ?_)
          refine k _ _ (by first | exact Fr.rf | exact Fr.rf.u 60 _ _ (by simp)) ?_
          show laOut (if st < 5 then _ else laNu st (I 44 27) (I 58) (I 59) (I 60) c) _ _
          rw [if_neg (by omega)]
          unfold laNu
          (repeat' split) <;> first | omega | exact ⟨by first | rfl | omega, rfl, rfl, rfl, by first | rfl | exact u2_row⟩ | exact ⟨rfl, hI⟩
        · refine B_X12_nextLand_270 hK (k := ?_)
          refine B_X12_nextLand_277 hK (k := ?_)
          refine k _ _ (by first | exact Fr.rf | exact Fr.rf.u 60 _ _ (by simp)) ?_
          show laOut (if st < 5 then _ else laNu st (I 44 27) (I 58) (I 59) (I 60) c) _ _
          rw [if_neg (by omega)]
          unfold laNu
          (repeat' split) <;> first | omega | exact ⟨by first | rfl | omega, rfl, rfl, rfl, by first | rfl | exact u2_row⟩ | exact ⟨rfl, hI⟩
    · rw [swT_in 11 240 (by omega) (by rfl)]
      refine hK.2 [false, false, false, false] _ _ _ _ _ ?_
      show K 240 [none, none, none, none] [] (sh, I, L) (0, 0)
      refine B_X12_nextLand_240 hK (k := ?_)
      refine k _ _ (by first | exact Fr.rf | exact Fr.rf.u 60 _ _ (by simp)) ?_
      show laOut (if st < 5 then _ else laNu st (I 44 27) (I 58) (I 59) (I 60) c) _ _
      rw [if_neg (by omega)]
      unfold laNu
      (repeat' split) <;> first | omega | exact ⟨by first | rfl | omega, rfl, rfl, rfl, by first | rfl | exact u2_row⟩ | exact ⟨rfl, hI⟩
  · refine B_X12_nextLand_10 hK hs (k := ?_)
    refine s_nextPlace hs (by omega) hc hm (fun r2 J2 F2 O2 => ?_)
    refine B_X12_nextLand_16 hK (k := ?_)
    refine k _ _ F2 ?_
    show laOut (if st < 5 then laPl st (I 44 27) (I 58) (I 59) (I 60) c else _) _ _
    rw [if_pos (by omega)]
    exact O2
