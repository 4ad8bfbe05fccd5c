theorem sm_split (a b : Nat) (f : Nat → Int) : sm (a + b) f = sm a f + sm b (fun i => f (a + i)) := by
  induction b with
  | zero => simp only [sm, Nat.add_zero]; omega
  | succ b ih =>
    rw [show a + (b + 1) = (a + b) + 1 by omega]
    simp only [sm]
    rw [ih]; omega
theorem sm_lab {m : Nat} {lab : Nat → Nat} (h1 : ∀ i, i < m → lab i < 1994) (h2 : ∀ i j, i < m → j < m → lab i = lab j → i = j) {G : Nat → Int} (hG : ∀ l, l < 1994 → 0 ≤ G l) : sm m (fun i => G (lab i)) ≤ sm 1994 G := by
  have e : sm m (fun i => G (lab i)) = sm 1994 (fun l => G l * byLab m lab (fun _ => 1) l) := by
    rw [byLab_sum h1]
    apply sm_congr
    intro i _
    rw [Int.mul_one]
  rw [e]
  apply sm_le
  intro l hl
  have h0 := hG l hl
  by_cases q : ∃ i, i < m ∧ lab i = l
  · obtain ⟨i, i1, i2⟩ := q
    rw [← i2, byLab_at h2 i1, Int.mul_one]
    exact Int.le_refl _
  · rw [byLab_no (fun i hi z => q ⟨i, hi, z⟩), Int.mul_zero]
    exact h0
theorem cC_nn {F M r : Nat → Int} {tw : Nat → Bool} {ea : Nat → Nat → Bool} (hF : ∀ p, 0 ≤ F p) (hM : ∀ u, 0 ≤ M u) (hr : ∀ j, 0 ≤ r j) (l : Nat) : 0 ≤ cC F M r tw ea l := by
  unfold cC
  split
  · exact hF _
  · split
    · exact hM _
    · split
      · exact hr _
      · split
        · exact hr _
        · split
          · split
            · exact hr _
            · omega
          · split
            · exact hr _
            · omega
theorem cC_S {P last : Int} {F M r : Nat → Int} {tw : Nat → Bool} {ea : Nat → Nat → Bool} {l : Nat} (hl : l < 1994) (h : 0 < cC (FJ P F) (MJ last M) r tw ea l) : Sov P last r tw ea 152 l := by
  unfold cC at h
  by_cases a1 : l < 8
  · rw [if_pos a1] at h
    unfold FJ at h
    split at h
    · exact Or.inl ⟨a1, by omega⟩
    · omega
  · rw [if_neg a1] at h
    by_cases a2 : l < 18
    · rw [if_pos a2] at h
      unfold MJ at h
      split at h
      · exact Or.inr (Or.inl ⟨by omega, a2, by omega⟩)
      · omega
    · rw [if_neg a2] at h
      refine Or.inr (Or.inr ?_)
      unfold ovp jOf
      by_cases a3 : l < 170
      · rw [if_pos a3] at h ⊢
        exact ⟨⟨by omega, hl, h, fun _ _ => by omega, fun _ => by omega⟩, by omega⟩
      · rw [if_neg a3] at h ⊢
        by_cases a4 : l < 322
        · rw [if_pos a4] at h ⊢
          exact ⟨⟨by omega, hl, h, fun _ _ => by omega, fun _ => by omega⟩, by omega⟩
        · rw [if_neg a4] at h ⊢
          by_cases a5 : l < 474
          · rw [if_pos a5] at h ⊢
            split at h
            · rename_i ht
              exact ⟨⟨by omega, hl, h, fun _ _ => ht, fun _ => by omega⟩, by omega⟩
            · omega
          · rw [if_neg a5] at h ⊢
            split at h
            · rename_i ht
              exact ⟨⟨by omega, hl, h, fun _ _ => by omega, fun _ => ht⟩, by omega⟩
            · omega
theorem Sov_pr {P last : Int} {r : Nat → Int} {tw : Nat → Bool} {ea : Nat → Nat → Bool} {j l : Nat} (h : Sov P last r tw ea j l) : prN r (cU l) ∧ prN r (cV l) := by
  unfold prN
  rcases h with h | h | ⟨h, -⟩
  · rw [(c_fl h.1).1, (c_fl h.1).2]; omega
  · have e := c_da (u := l - 8) (by omega)
    rw [show 8 + (l - 8) = l by omega] at e
    rw [e.1, e.2]; omega
  · obtain ⟨a1, a2, a3, a4, a5⟩ := h
    unfold jOf at a3
    by_cases b1 : l < 170
    · rw [if_pos b1] at a3
      have e := c_in (j := l - 18) (by omega)
      rw [show 18 + (l - 18) = l by omega] at e
      rw [e.1, e.2, show (20 + 2 * (l - 18) - 20) / 2 = l - 18 by omega, show (21 + 2 * (l - 18) - 20) / 2 = l - 18 by omega]
      exact ⟨Or.inr ⟨by omega, a3⟩, Or.inr ⟨by omega, a3⟩⟩
    · rw [if_neg b1] at a3
      by_cases b2 : l < 322
      · rw [if_pos b2] at a3
        have e := c_lo (j := l - 170) (by omega)
        rw [show 170 + (l - 170) = l by omega] at e
        rw [e.1, e.2, show (20 + 2 * (l - 170) - 20) / 2 = l - 170 by omega]
        exact ⟨Or.inl (by omega), Or.inr ⟨by omega, a3⟩⟩
      · rw [if_neg b2] at a3
        by_cases b3 : l < 474
        · rw [if_pos b3] at a3
          have e := c_to (j := l - 322) (by omega)
          rw [show 322 + (l - 322) = l by omega] at e
          rw [e.1, e.2, show (20 + 2 * (l - 322) - 20) / 2 = l - 322 by omega]
          exact ⟨Or.inl (by omega), Or.inr ⟨by omega, a3⟩⟩
        · rw [if_neg b3] at a3
          have e := c_br (j := (l - 474) / 10) (u := (l - 474) % 10) (by omega) (by omega)
          rw [show 474 + 10 * ((l - 474) / 10) + (l - 474) % 10 = l by omega] at e
          rw [e.1, e.2, show (21 + 2 * ((l - 474) / 10) - 20) / 2 = (l - 474) / 10 by omega]
          exact ⟨Or.inr ⟨by omega, a3⟩, Or.inl (by omega)⟩
theorem fAbs_bd {x : Int} {a : Int} (h : -a ≤ x ∧ x ≤ a) : 0 ≤ fAbs x ∧ fAbs x ≤ a := by unfold fAbs; split <;> omega
theorem cW_bd {col : Nat → Int} (hc : ∀ u, u < 10 → 0 ≤ col u ∧ col u ≤ 7) {l : Nat} (hl : l < 1994) : 0 ≤ cW col l ∧ cW col l ≤ 7 := by
  unfold cW
  split
  · omega
  · split
    · omega
    · have := hc ((l - 474) % 10) (by omega)
      exact fAbs_bd (a := 7) (by omega)
/-- which labels begin and end at an oven's nodes -/
theorem cV_out {l j : Nat} (hl : l < 1994) (h : cV l = 21 + 2 * j) : l = 18 + j := by
  unfold cV at h
  repeat' split at h
  all_goals omega
theorem cU_in {l j : Nat} (hl : l < 1994) (h : cU l = 20 + 2 * j) : l = 18 + j := by
  unfold cU at h
  repeat' split at h
  all_goals omega
/-- through an oven no more goes than it can bake -/
theorem oven_le {N m : Nat} {u v : Nat → Nat} {s t : Nat} {f cp : Nat → Int} {lab nu : Nat → Nat} {prs : Nat → Prop} (h1 : ∀ i, i < m → lab i < 1994) (h2 : ∀ i j, i < m → j < m → lab i = lab j → i = j) (hu : ∀ i, i < m → u i = nu (cU (lab i)) ∧ prs (cU (lab i))) (hv : ∀ i, i < m → v i = nu (cV (lab i)) ∧ prs (cV (lab i))) (hnu : ∀ a b, prs a → prs b → nu a = nu b → a = b) (hnl : ∀ a, prs a → nu a < N) (p0 : prs 0) (p1 : prs 1) (n0 : nu 0 = s) (n1 : nu 1 = t) (hbal : balanced N m u v s t f) (hf : ∀ i, i < m → 0 ≤ f i) (hin : ∀ i j, i < m → lab i = 18 + j → f i ≤ cp (18 + j)) {i j : Nat} (hi : i < m) (hj : cV (lab i) = 20 + 2 * j ∨ cU (lab i) = 21 + 2 * j) (hc : 0 ≤ cp (18 + j)) : f i ≤ cp (18 + j) := by
  have lim : ∀ (Z : Nat → Bool), (∀ i, i < m → Z i = true → lab i = 18 + j) → sm m (fun i => if Z i = true then f i else 0) ≤ cp (18 + j) := by
    intro Z hZ
    have a : sm m (fun i => if Z i = true then f i else 0) ≤ byLab m lab (fun _ => cp (18 + j)) (18 + j) := by
      apply sm_le
      intro i hi
      by_cases q : Z i = true
      · have := hin i j hi (hZ i hi q)
        rw [if_pos q, if_pos (hZ i hi q)]; exact this
      · rw [if_neg q]; split <;> omega
    by_cases q : ∃ i, i < m ∧ lab i = 18 + j
    · obtain ⟨i, i1, i2⟩ := q
      have e := byLab_at (f := fun _ => cp (18 + j)) h2 i1
      rw [i2] at e
      rw [e] at a
      exact a
    · rw [byLab_no (fun i hi z => q ⟨i, hi, z⟩)] at a
      omega
  have both : ∀ n, prs n → n ≠ 0 → n ≠ 1 → sm m (fun i => if v i = nu n then f i else 0) = sm m (fun i => if u i = nu n then f i else 0) := by
    intro n hn a b
    have h := hbal (nu n) (hnl n hn) (fun z => a (hnu _ _ hn p0 (by rw [z, n0]))) (fun z => b (hnu _ _ hn p1 (by rw [z, n1])))
    rw [bal, sm_sub] at h
    omega
  rcases hj with hj | hj
  · have hp : prs (20 + 2 * j) := by rw [← hj]; exact (hv i hi).2
    have a := sm_term (n := m) (f := fun i => if v i = nu (20 + 2 * j) then f i else 0) (fun i hi => by have := hf i hi; split <;> omega) i hi
    simp only [if_pos (show v i = nu (20 + 2 * j) by rw [(hv i hi).1, hj])] at a
    rw [both _ hp (by omega) (by omega)] at a
    have b := lim (fun i => decide (u i = nu (20 + 2 * j))) (fun i hi hz => by
      simp only [decide_eq_true_eq] at hz
      have : cU (lab i) = 20 + 2 * j := hnu _ _ (hu i hi).2 hp (by rw [← (hu i hi).1]; exact hz)
      exact cU_in (h1 i hi) this)
    simp only [decide_eq_true_eq] at b
    omega
  · have hp : prs (21 + 2 * j) := by rw [← hj]; exact (hu i hi).2
    have a := sm_term (n := m) (f := fun i => if u i = nu (21 + 2 * j) then f i else 0) (fun i hi => by have := hf i hi; split <;> omega) i hi
    simp only [if_pos (show u i = nu (21 + 2 * j) by rw [(hu i hi).1, hj])] at a
    rw [← both _ hp (by omega) (by omega)] at a
    have b := lim (fun i => decide (v i = nu (21 + 2 * j))) (fun i hi hz => by
      simp only [decide_eq_true_eq] at hz
      have : cV (lab i) = 21 + 2 * j := hnu _ _ (hv i hi).2 hp (by rw [← (hv i hi).1]; exact hz)
      exact cV_out (h1 i hi) this)
    simp only [decide_eq_true_eq] at b
    omega
