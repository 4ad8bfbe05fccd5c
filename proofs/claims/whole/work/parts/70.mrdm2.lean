/-- what a march keeps while it is read -/
def maOK (s : maS) : Prop := (0 ≤ s.1 ∧ s.1 ≤ 9) ∧ (0 ≤ s.2.1 ∧ s.2.1 ≤ 10) ∧ (0 ≤ s.2.2.2.1 ∧ s.2.2.2.1 ≤ 2) ∧ (s.1 = 5 → s.2.1 < 10 ∧ s.2.2.2.1 < 2) ∧ (s.1 = 4 → 1 ≤ s.2.1) ∧ (s.1 = 0 → s.2.2.1 = 0) ∧ (s.1 = 1 ∨ s.1 = 7 → 1 ≤ s.2.2.1 ∧ s.2.2.1 ≤ 9) ∧ (s.1 ≠ 0 → s.1 ≠ 6 → 1 ≤ s.2.2.1 ∧ s.2.2.1 ≤ 99) ∧ (s.1 = 4 → -1 ≤ s.2.2.2.2.1 ∧ s.2.2.2.2.1 ≤ 1) ∧ (∀ d : Nat, (d : Int) < s.2.1 → (-1 ≤ s.2.2.2.2.2.1 d ∧ s.2.2.2.2.2.1 d ≤ 2) ∧ 0 ≤ s.2.2.2.2.2.2.1 d ∧ s.2.2.2.2.2.2.1 d ≤ 99) ∧ (∀ x : Nat, (x : Int) < s.2.2.2.1 → 1 ≤ s.2.2.2.2.2.2.2 x ∧ s.2.2.2.2.2.2.2 x ≤ 9)
theorem mvOf_bd {c : Int} : -1 ≤ mvOf c ∧ mvOf c ≤ 1 := by
  unfold mvOf
  (repeat' split) <;> decide
theorem maOK_st {s t : maS} {c : Int} (h : maOK s) (e : maStep s c = some t) : maOK t := by
  obtain ⟨st, many, men, ch, mv, Mv, Mn, Tn⟩ := s
  obtain ⟨h1, h2, h3, h4, h5, h6, h7, h8, h9, h10, h11⟩ := h
  dsimp only at h1 h2 h3 h4 h5 h6 h7 h8 h9 h10 h11
  unfold maStep at e
  dsimp only at e
  split at e
  · unfold maHead at e
    split at e
    · cases e
      refine ⟨?_, h2, h3, ?_, ?_, ?_, ?_, ?_, ?_, h10, h11⟩ <;> dsimp only <;> omega
    · split at e
      · cases e
        refine ⟨?_, h2, h3, ?_, ?_, ?_, ?_, ?_, ?_, h10, h11⟩ <;> dsimp only <;> omega
      · cases e
  · split at e
    · unfold maRep at e
      split at e
      · cases e
      · cases e
        refine ⟨?_, ?_, h3, ?_, ?_, ?_, ?_, ?_, ?_, fun d hd => ?_, h11⟩
        any_goals dsimp only
        any_goals omega
        dsimp only at hd
        have g := h10 d
        have g9 := h9 (by omega)
        have g8 := h8 (by omega) (by omega)
        unfold fil
        (repeat' split) <;> omega
    · split at e
      · split at e
        · cases e
          have g5 := h4 (by omega)
          refine ⟨?_, ?_, ?_, ?_, ?_, ?_, ?_, ?_, ?_, fun d hd => ?_, fun x hx => ?_⟩
          any_goals dsimp only
          any_goals omega
          · dsimp only at hd
            have g := h10 d
            have g8 := h8 (by omega) (by omega)
            unfold up
            (repeat' split) <;> omega
          · dsimp only at hx
            have g := h11 x
            unfold up
            split <;> omega
        · cases e
      · split at e
        · split at e
          · cases e
            refine ⟨?_, h2, h3, ?_, ?_, ?_, ?_, ?_, ?_, h10, h11⟩ <;> dsimp only <;> omega
          · cases e
        · split at e
          · cases e
            refine ⟨?_, h2, h3, ?_, ?_, ?_, ?_, ?_, ?_, h10, h11⟩ <;> dsimp only <;> omega
          · unfold maRest at e
            split at e
            · cases e
              refine ⟨?_, h2, h3, ?_, ?_, ?_, ?_, ?_, ?_, h10, h11⟩ <;> dsimp only <;> omega
            · split at e
              · cases e
              · split at e
                · split at e
                  · cases e
                    refine ⟨?_, h2, h3, ?_, ?_, ?_, ?_, ?_, ?_, h10, h11⟩ <;> dsimp only <;> omega
                  · cases e
                · split at e
                  · cases e
                    have mb := mvOf_bd (c := c)
                    refine ⟨?_, ?_, h3, ?_, ?_, ?_, ?_, ?_, ?_, fun d hd => ?_, h11⟩
                    any_goals dsimp only
                    any_goals omega
                    dsimp only at hd
                    have g := h10 d
                    have g8 := h8 (by omega) (by omega)
                    unfold up
                    (repeat' split) <;> omega
                  · cases e
