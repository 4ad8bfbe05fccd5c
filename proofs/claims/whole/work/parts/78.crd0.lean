/-! the class reads: one letter, a number, against a machine -/
theorem lk_in {pg : Nat → Int} {len c : Nat} (h : c < len) : lkP pg len c = pg c := by
  unfold lkP
  rw [if_pos h]
theorem rd_go {S : Type} {step : S → Int → Option S} {s0 : S} {pg : Nat → Int} {len c : Nat} {s : S} {ch : Int} (h : rdAt step s0 pg c = some s) (hc : c < len) (e : lkP pg len c = ch) : rdAt step s0 pg (c + 1) = step s ch := by
  rw [rdAt_st h, ← e, lk_in hc]
theorem rd_no {S : Type} {step : S → Int → Option S} {s0 : S} {pg : Nat → Int} {len c : Nat} {s : S} (h : rdAt step s0 pg c = some s) (hc : c ≤ len) (hn : c < len → step s (lkP pg len c) = none) : rdEnd step s0 pg len c s := by
  refine ⟨hc, h, ?_⟩
  rcases Nat.lt_or_ge c len with q | q
  · exact Or.inr (by rw [← lk_in (pg := pg) q]; exact hn q)
  · exact Or.inl (by omega)
theorem uA {J : Nat → Nat → Int} {h k : Nat} {v : Int} : u2 J h k v h k = v := by simp [u2]
theorem uN {J : Nat → Nat → Int} {h k h' k' : Nat} {v : Int} (n : h' ≠ h) : u2 J h k v h' k' = J h' k' := by simp [u2, n]
theorem uK {J : Nat → Nat → Int} {h k h' k' : Nat} {v : Int} (n : k' ≠ k) : u2 J h k v h' k' = J h' k' := by simp [u2, n]
theorem uF {J : Nat → Nat → Int} {h k h' k' : Nat} {v : Int} (n : h' ≠ h ∨ k' ≠ k) : u2 J h k v h' k' = J h' k' := by
  rcases n with n | n
  · exact uN n
  · exact uK n
theorem pgA.fr {I J : Nat → Nat → Int} {pg : Nat → Int} {len c : Nat} (h : pgA I pg len c) (e1 : J 1 1 = I 1 1) (e2 : J 1 2 = I 1 2) (e3 : J 2 = I 2) : pgA J pg len c := by
  unfold pgA
  rw [e1, e2, e3]
  exact h
theorem pgA.u {J : Nat → Nat → Int} {pg : Nat → Int} {len c h k : Nat} {v : Int} (a : pgA J pg len c) (n1 : h ≠ 1) (n2 : h ≠ 2) : pgA (u2 J h k v) pg len c := a.fr (uN (Ne.symm n1)) (uN (Ne.symm n1)) (u2_oth (Ne.symm n2))
/-- digits one behind the other -/
theorem nuL_rd {S : Type} {step : S → Int → Option S} {s0 : S} {pg : Nat → Int} {len n : Nat} {G : Nat → Int → S} (hG : ∀ d v ch, 1 ≤ d → d < n → isDg ch → step (G d v) ch = some (G (d + 1) (10 * v + ch - 48))) :
    ∀ (r d : Nat) (v : Int) (c : Nat), d + r = n → 1 ≤ d → c ≤ len → 0 ≤ v → v ≤ 10 ^ d - 1 → rdAt step s0 pg c = some (G d v) → ∃ d', rdAt step s0 pg (nuL pg len r v c).2 = some (G d' (nuL pg len r v c).1) ∧ 1 ≤ d' ∧ d' ≤ n ∧ (v ≤ (nuL pg len r v c).1 ∧ (nuL pg len r v c).1 ≤ 10 ^ d' - 1) ∧ (d' < n → ¬ isDg (lkP pg len (nuL pg len r v c).2))
  | 0, d, v, c, h1, h2, h3, h4, h5, h6 => ⟨d, h6, h2, by omega, ⟨Int.le_refl _, h5⟩, fun z => absurd z (by omega)⟩
  | r + 1, d, v, c, h1, h2, h3, h4, h5, h6 => by
    unfold nuL
    by_cases q : 0 ≤ lkP pg len c - 48 ∧ lkP pg len c - 48 ≤ 9
    · rw [if_pos q]
      have hc : c < len := by
        apply Classical.byContradiction
        intro z
        unfold lkP at q
        rw [if_neg z] at q
        omega
      have g := rd_go h6 hc rfl
      rw [hG d v _ h2 (by omega) ⟨by omega, by omega⟩, show 10 * v + lkP pg len c - 48 = 10 * v + (lkP pg len c - 48) by omega] at g
      have b : 10 * v + (lkP pg len c - 48) ≤ 10 ^ (d + 1) - 1 := by
        rw [Int.pow_succ]
        omega
      obtain ⟨d', x1, x2, x3, x4, x5⟩ := nuL_rd (len := len) hG r (d + 1) (10 * v + (lkP pg len c - 48)) (c + 1) (by omega) (by omega) (by omega) (by omega) b g
      exact ⟨d', x1, x2, x3, ⟨by omega, x4.2⟩, x5⟩
    · rw [if_neg q]
      exact ⟨d, h6, h2, by omega, ⟨Int.le_refl _, h5⟩, fun _ z => q (by have z1 := z.1; have z2 := z.2; dsimp only at z1 z2; omega)⟩
theorem s_numR {sh : oS} {I : Nat → Nat → Int} {L : Nat → Nat → Int64} {Q : oQ} (hs : Sh sh) {S : Type} {step : S → Int → Option S} {s0 s : S} {pg : Nat → Int} {len c n : Nat} {lo : Int} (G : Nat → Int → S) (h : pgA I pg len c) (hr : rdAt step s0 pg c = some s) (hl : 0 ≤ lo ∧ lo ≤ 9) (hn : 1 ≤ n ∧ n ≤ 3)
    (h1 : ∀ ch, isDg ch → lo ≤ ch - 48 → step s ch = some (G 1 (ch - 48))) (hG : ∀ d v ch, 1 ≤ d → d < n → isDg ch → step (G d v) ch = some (G (d + 1) (10 * v + ch - 48)))
    (k1 : ∀ J (c' d : Nat) (v : Int), Fr [] [(1, 2)] I J → pgA J pg len c' → rdAt step s0 pg c' = some (G d v) → 1 ≤ d → d ≤ n → lo ≤ v ∧ v ≤ 10 ^ d - 1 → (d < n → ¬ isDg (lkP pg len c')) → c < c' → Q (some (vI v)) (sh, J, L))
    (k2 : ∀ J, Fr [] [(1, 2)] I J → pgA J pg len c → ¬ (isDg (lkP pg len c) ∧ lo ≤ lkP pg len c - 48) → Q (some (vI (-1))) (sh, J, L)) : T_X8_number [vR 1, vI lo, vI (n : Int)] (sh, I, L) Q := by
  refine s_number hs h hl hn (fun J F p => ?_)
  unfold nuP at p ⊢
  by_cases q : lo ≤ lkP pg len c - 48 ∧ lkP pg len c - 48 ≤ 9
  · rw [if_pos q] at p ⊢
    have hc : c < len := h.lt (by omega)
    have g := rd_go hr hc rfl
    rw [h1 _ ⟨by omega, by omega⟩ q.1] at g
    obtain ⟨d', x1, x2, x3, x4, x5⟩ := nuL_rd (len := len) hG (n - 1) 1 (lkP pg len c - 48) (c + 1) (by omega) (by omega) (by omega) (by omega) (by omega) g
    have mono : ∀ (r : Nat) (v : Int) (e : Nat), e ≤ (nuL pg len r v e).2 := by
      intro r
      induction r with
      | zero => intro v e; exact Nat.le_refl _
      | succ r ih =>
        intro v e
        unfold nuL
        split
        · have := ih (10 * v + (lkP pg len e - 48)) (e + 1)
          omega
        · exact Nat.le_refl _
    have := mono (n - 1) (lkP pg len c - 48) (c + 1)
    exact k1 J _ d' _ F p x1 x2 x3 ⟨by omega, x4.2⟩ x5 (by omega)
  · rw [if_neg q] at p ⊢
    exact k2 J F p (fun z => q ⟨z.2, by have := z.1.2; omega⟩)
theorem fr12 {J : Nat → Nat → Int} {v : Int} : Fr [] [(1, 2)] J (u2 J 1 2 v) := Fr.rf.u 1 2 _ (by simp)
