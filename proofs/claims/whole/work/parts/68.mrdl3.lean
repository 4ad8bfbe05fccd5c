/-- what a land keeps while it is read -/
def laOK (s : laS) : Prop := (0 ≤ s.1 ∧ s.1 ≤ 16) ∧ (0 ≤ s.2.1 ∧ s.2.1 ≤ 8) ∧ (s.1 = 0 → s.2.1 ≤ 7) ∧ (s.1 ≠ 0 → 1 ≤ s.2.1) ∧ (5 ≤ s.1 → 2 ≤ s.2.1) ∧ (∀ p : Nat, (p : Int) < s.2.1 → (0 ≤ s.2.2.1 p ∧ s.2.2.1 p ≤ 999) ∧ (s.2.2.2.1 p = 0 ∨ s.2.2.2.1 p = 1)) ∧ (s.1 = 1 → s.2.2.1 (s.2.1 - 1).toNat ≤ 9) ∧ (s.1 = 2 → s.2.2.1 (s.2.1 - 1).toNat ≤ 99) ∧ (s.1 = 7 → 1 ≤ s.2.2.2.2 0 ∧ s.2.2.2.2 0 ≤ 9) ∧ (8 ≤ s.1 → 1 ≤ s.2.2.2.2 0 ∧ s.2.2.2.2 0 ≤ 99) ∧ (10 ≤ s.1 → 0 ≤ s.2.2.2.2 1 ∧ s.2.2.2.2 1 ≤ 9) ∧ (12 ≤ s.1 → 1 ≤ s.2.2.2.2 2 ∧ s.2.2.2.2 2 ≤ 9) ∧ (s.1 ≤ 13 → s.2.2.2.2 3 = 0) ∧ (s.1 = 14 → 0 ≤ s.2.2.2.2 3 ∧ s.2.2.2.2 3 ≤ 9) ∧ (s.1 = 15 → 0 ≤ s.2.2.2.2 3 ∧ s.2.2.2.2 3 ≤ 99) ∧ (s.1 = 16 → 0 ≤ s.2.2.2.2 3 ∧ s.2.2.2.2 3 ≤ 999)
set_option maxHeartbeats 4000000 in
theorem laOK_pl {st many c : Int} {F W Ld : Nat → Int} {s : laS} (h : laOK (st, many, F, W, Ld)) (hst : st < 5) (e : laPl st many F W Ld c = some s) : laOK s := by
  obtain ⟨h1, h2, h3, h4, h5, h6, h7, h8, h9, h10, h11, h12, h13, h14, h15, h16⟩ := h
  simp only at h1 h2 h3 h4 h5 h6 h7 h8 h9 h10 h11 h12 h13 h14 h15 h16
  unfold laPl at e
  have hl : st ≠ 0 → 0 ≤ F (many - 1).toNat ∧ F (many - 1).toNat ≤ 999 := fun z => (h6 (many - 1).toNat (by have := h4 z; omega)).1
  (repeat' split at e) <;> first | (cases e; done) | (cases e; refine ⟨by simp only; omega, by simp only; omega, by simp only; omega, by simp only; omega, by simp only; omega, fun p hp => ?_, ?_, ?_, by simp only; omega, by simp only; omega, by simp only; omega, by simp only; omega, by simp only; omega, by simp only; omega, by simp only; omega, by simp only; omega⟩)
  all_goals simp only at *
  all_goals first
    | (intro z; simp only [up]; split <;> omega)
    | (intro z; omega)
    | (exact h6 p hp)
    | (have g := h6 p; simp only [up]; (repeat' split) <;> omega)
    | skip
theorem laOK_nu {st many c : Int} {F W Ld : Nat → Int} {s : laS} (h : laOK (st, many, F, W, Ld)) (hst : ¬ st < 5) (e : laNu st many F W Ld c = some s) : laOK s := by
  obtain ⟨h1, h2, h3, h4, h5, h6, h7, h8, h9, h10, h11, h12, h13, h14, h15, h16⟩ := h
  simp only at h1 h2 h3 h4 h5 h6 h7 h8 h9 h10 h11 h12 h13 h14 h15 h16
  unfold laNu at e
  (repeat' split at e) <;> first | (cases e; done) | (cases e; refine ⟨by simp only; omega, by simp only; omega, by simp only; omega, by simp only; omega, by simp only; omega, h6, by simp only; omega, by simp only; omega, ?_, ?_, ?_, ?_, ?_, ?_, ?_, ?_⟩ <;> (intro z; (try dsimp only at z ⊢); first | omega | (simp only [up, if_true, if_false, reduceIte, reduceCtorEq, Nat.reduceEqDiff, OfNat.ofNat_ne_zero, OfNat.zero_ne_ofNat, Nat.zero_ne_one, Nat.one_ne_zero]; omega) | (simp [up]; omega)))
theorem laOK_st {s t : laS} {c : Int} (h : laOK s) (e : laStep s c = some t) : laOK t := by
  unfold laStep at e
  split at e
  · exact laOK_pl (st := s.1) (many := s.2.1) (F := s.2.2.1) (W := s.2.2.2.1) (Ld := s.2.2.2.2) h (by assumption) e
  · exact laOK_nu (st := s.1) (many := s.2.1) (F := s.2.2.1) (W := s.2.2.2.1) (Ld := s.2.2.2.2) h (by assumption) e
