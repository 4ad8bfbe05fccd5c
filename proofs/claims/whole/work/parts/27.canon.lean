/-! the net of all that may be: 8 flours (0 to 7), 10 days (8 to 17), 152 ovens (by place and day, j = 19 p + t + 9): inside (18 ..), from the place (170 ..), from the town (322 ..), bread (474 ..); nodes: 0 all flour, 1 the end, 2 + p, 10 + u, 20 + 2 j, 21 + 2 j -/
def cU (l : Nat) : Nat := if l < 8 then 0 else if l < 18 then 10 + (l - 8) else if l < 170 then 20 + 2 * (l - 18) else if l < 322 then 2 + (l - 170) / 19 else if l < 474 then 2 else 21 + 2 * ((l - 474) / 10)
def cV (l : Nat) : Nat := if l < 8 then 2 + l else if l < 18 then 1 else if l < 170 then 21 + 2 * (l - 18) else if l < 322 then 20 + 2 * (l - 170) else if l < 474 then 20 + 2 * (l - 322) else 10 + (l - 474) % 10
def cW (col : Nat → Int) (l : Nat) : Int := if l < 322 then 0 else if l < 474 then ((l - 322) / 19 : Nat) else fAbs (col ((l - 474) % 10) - (((l - 474) / 10 / 19 : Nat) : Int))
def cC (F M r : Nat → Int) (tw : Nat → Bool) (ea : Nat → Nat → Bool) (l : Nat) : Int := if l < 8 then F l else if l < 18 then M (l - 8) else if l < 170 then r (l - 18) else if l < 322 then r (l - 170) else if l < 474 then (if tw (l - 322) = true then r (l - 322) else 0) else (if ea ((l - 474) / 10) ((l - 474) % 10) = true then r ((l - 474) / 10) else 0)
theorem cU_lt {l : Nat} (h : l < 1994) : cU l < 324 := by
  unfold cU
  repeat' split
  all_goals omega
theorem cV_lt {l : Nat} (h : l < 1994) : cV l < 324 := by
  unfold cV
  repeat' split
  all_goals omega
def cFlow (cp phi : Nat → Int) : Prop := (∀ l, l < 1994 → 0 ≤ phi l ∧ phi l ≤ cp l) ∧ balanced 324 1994 cU cV 0 1 phi
/-- so much can flow at most -/
def cMax (cp : Nat → Int) (v : Int) : Prop := ∃ (phi : Nat → Int) (R : Nat → Bool), cFlow cp phi ∧ R 0 = true ∧ R 1 = false ∧ (∀ l, l < 1994 → phi l < cp l → R (cU l) = true → R (cV l) = true) ∧ (∀ l, l < 1994 → 0 < phi l → R (cV l) = true → R (cU l) = true) ∧ v = bal 1994 cU cV phi 1
/-- so much can flow at most, and costs so much at least then -/
def cBest (cp w : Nat → Int) (v c : Int) : Prop := ∃ (phi : Nat → Int) (R : Nat → Bool) (pi : Nat → Int), cFlow cp phi ∧ R 0 = true ∧ R 1 = false ∧ (∀ l, l < 1994 → phi l < cp l → R (cU l) = true → R (cV l) = true) ∧ (∀ l, l < 1994 → 0 < phi l → R (cV l) = true → R (cU l) = true) ∧ v = bal 1994 cU cV phi 1 ∧ (∀ l, l < 1994 → phi l < cp l → pi (cV l) ≤ pi (cU l) + w l) ∧ (∀ l, l < 1994 → 0 < phi l → pi (cU l) + w l ≤ pi (cV l)) ∧ c = sm 1994 (fun l => w l * phi l)
theorem cBest.max {cp w : Nat → Int} {v c : Int} (h : cBest cp w v c) : cMax cp v := by
  obtain ⟨phi, R, pi, h1, h2, h3, h4, h5, h6, -⟩ := h
  exact ⟨phi, R, h1, h2, h3, h4, h5, h6⟩
theorem cMax.ge {cp phi : Nat → Int} {v : Int} (h : cMax cp v) (hf : cFlow cp phi) : bal 1994 cU cV phi 1 ≤ v := by
  obtain ⟨psi, R, h1, h2, h3, h4, h5, h6⟩ := h
  rw [h6]
  exact flow_max (N := 324) (s := 0) (cp := cp) R (fun i hi => cU_lt hi) (fun i hi => cV_lt hi) (by decide) (by decide) (by decide) h1.2 hf.2 hf.1 h2 h3 h4 h5
theorem cMax.un {cp : Nat → Int} {v v' : Int} (a : cMax cp v) (b : cMax cp v') : v = v' := by
  have h1 := a
  have h2 := b
  obtain ⟨phi, R, x1, -, -, -, -, x6⟩ := h1
  obtain ⟨psi, R', y1, -, -, -, -, y6⟩ := h2
  have := a.ge y1
  have := b.ge x1
  omega
theorem cBest.un {cp w : Nat → Int} {v v' c c' : Int} (a : cBest cp w v c) (b : cBest cp w v' c') : v = v' ∧ c = c' := by
  have e := a.max.un b.max
  refine ⟨e, ?_⟩
  obtain ⟨phi, R, pi, x1, -, -, -, -, x6, x7, x8, x9⟩ := a
  obtain ⟨psi, R', pi', y1, -, -, -, -, y6, y7, y8, y9⟩ := b
  have z1 := flow_min (N := 324) (s := 0) (t := 1) (cp := cp) pi (fun i hi => cU_lt hi) (fun i hi => cV_lt hi) (by decide) (by decide) (by decide) x1.2 y1.2 y1.1 x1.1 x7 x8 (by rw [← y6, ← x6, e])
  have z2 := flow_min (N := 324) (s := 0) (t := 1) (cp := cp) pi' (fun i hi => cU_lt hi) (fun i hi => cV_lt hi) (by decide) (by decide) (by decide) y1.2 x1.2 x1.1 y1.1 y7 y8 (by rw [← y6, ← x6, e])
  omega
/-! a net that was laid, told by labels -/
section TR
variable {m : Nat} {lab : Nat → Nat} {f : Nat → Int}
def byLab (m : Nat) (lab : Nat → Nat) (f : Nat → Int) (l : Nat) : Int := sm m (fun i => if lab i = l then f i else 0)
theorem byLab_sum (hl : ∀ i, i < m → lab i < 1994) (G : Nat → Int) : sm 1994 (fun l => G l * byLab m lab f l) = sm m (fun i => G (lab i) * f i) := by
  have e : ∀ l, G l * byLab m lab f l = sm m (fun i => if lab i = l then G l * f i else 0) := by
    intro l
    rw [byLab, ← sm_mulc]
    apply sm_congr
    intro i _
    split <;> simp
  rw [sm_congr (n := 1994) (fun l _ => e l), sm_swap]
  apply sm_congr
  intro i hi
  rw [← sm_one (n := 1994) (k := lab i) (G (lab i) * f i) (hl i hi)]
  apply sm_congr
  intro l _
  by_cases q : lab i = l
  · rw [if_pos q, if_pos q.symm, q]
  · rw [if_neg q, if_neg (fun z => q z.symm)]
theorem byLab_at (hi : ∀ i j, i < m → j < m → lab i = lab j → i = j) {i : Nat} (h : i < m) : byLab m lab f (lab i) = f i := by
  rw [byLab, ← sm_one (n := m) (k := i) (f i) h]
  apply sm_congr
  intro j hj
  by_cases q : lab j = lab i
  · have := hi j i hj h q
    subst this
    rw [if_pos rfl, if_pos rfl]
  · rw [if_neg q, if_neg (fun z => q (by rw [z]))]
theorem byLab_no {l : Nat} (h : ∀ i, i < m → lab i ≠ l) : byLab m lab f l = 0 := sm_zero' (fun i hi => if_neg (h i hi))
theorem ite_mul1 (p : Prop) [Decidable p] (x : Int) : (if p then (1 : Int) else 0) * x = if p then x else 0 := by split <;> simp
theorem byLab_bal (hl : ∀ i, i < m → lab i < 1994) (n : Nat) : bal 1994 cU cV (byLab m lab f) n = sm m (fun i => (if cV (lab i) = n then f i else 0) - (if cU (lab i) = n then f i else 0)) := by
  have e : bal 1994 cU cV (byLab m lab f) n = sm 1994 (fun l => ((if cV l = n then 1 else 0) - (if cU l = n then 1 else 0)) * byLab m lab f l) := by
    rw [bal]
    apply sm_congr
    intro l _
    rw [Int.sub_mul, ite_mul1, ite_mul1]
  rw [e, byLab_sum hl (fun l => (if cV l = n then 1 else 0) - (if cU l = n then 1 else 0))]
  apply sm_congr
  intro i _
  rw [Int.sub_mul, ite_mul1, ite_mul1]
/-- the certificate of a laid net is one of the net of all that may be -/
theorem tr_cert {N : Nat} {u v : Nat → Nat} {nu : Nat → Nat} {prs : Nat → Prop} {s t : Nat} {cp : Nat → Int} (hl : ∀ i, i < m → lab i < 1994) (hinj : ∀ i j, i < m → j < m → lab i = lab j → i = j)
    (hu : ∀ i, i < m → u i = nu (cU (lab i)) ∧ prs (cU (lab i))) (hv : ∀ i, i < m → v i = nu (cV (lab i)) ∧ prs (cV (lab i))) (hnu : ∀ a b, prs a → prs b → nu a = nu b → a = b) (hnl : ∀ a, prs a → nu a < N) (p0 : prs 0) (p1 : prs 1) (n0 : nu 0 = s) (n1 : nu 1 = t)
    (hbal : balanced N m u v s t f) (hcp : ∀ i, i < m → 0 ≤ f i ∧ f i ≤ cp (lab i)) (hc0 : ∀ l, l < 1994 → 0 ≤ cp l) (hall : ∀ l, l < 1994 → 0 < cp l → ∃ i, i < m ∧ lab i = l) :
    cFlow cp (byLab m lab f) ∧ bal 1994 cU cV (byLab m lab f) 1 = bal m u v f t ∧ (∀ (A : Nat → Nat → Nat → Prop), (∀ i, i < m → f i < cp (lab i) → A (cU (lab i)) (cV (lab i)) (lab i)) → ∀ l, l < 1994 → byLab m lab f l < cp l → A (cU l) (cV l) l) ∧ (∀ (A : Nat → Nat → Nat → Prop), (∀ i, i < m → 0 < f i → A (cU (lab i)) (cV (lab i)) (lab i)) → ∀ l, l < 1994 → 0 < byLab m lab f l → A (cU l) (cV l) l) := by
  have hb : ∀ n, prs n → bal 1994 cU cV (byLab m lab f) n = bal m u v f (nu n) := by
    intro n hn
    rw [byLab_bal hl, bal]
    apply sm_congr
    intro i hi
    obtain ⟨a1, a2⟩ := hu i hi
    obtain ⟨b1, b2⟩ := hv i hi
    congr 1
    · by_cases q : cV (lab i) = n
      · rw [if_pos q, if_pos (by rw [b1, q])]
      · rw [if_neg q, if_neg (fun z => q (hnu _ _ b2 hn (by rw [← b1]; exact z)))]
    · by_cases q : cU (lab i) = n
      · rw [if_pos q, if_pos (by rw [a1, q])]
      · rw [if_neg q, if_neg (fun z => q (hnu _ _ a2 hn (by rw [← a1]; exact z)))]
  have hcase : ∀ l, l < 1994 → (∃ i, i < m ∧ lab i = l ∧ byLab m lab f l = f i) ∨ (byLab m lab f l = 0 ∧ cp l = 0) := by
    intro l hl2
    by_cases q : ∃ i, i < m ∧ lab i = l
    · obtain ⟨i, h1, h2⟩ := q
      exact Or.inl ⟨i, h1, h2, by rw [← h2, byLab_at hinj h1]⟩
    · refine Or.inr ⟨byLab_no (fun i hi z => q ⟨i, hi, z⟩), ?_⟩
      have := hc0 l hl2
      apply Classical.byContradiction
      intro z
      exact q (hall l hl2 (by omega))
  refine ⟨⟨fun l hl2 => ?_, fun n hn hs ht => ?_⟩, by rw [hb 1 p1, n1], fun A hA l hl2 hlt => ?_, fun A hA l hl2 hlt => ?_⟩
  · rcases hcase l hl2 with ⟨i, h1, h2, h3⟩ | ⟨h1, h2⟩
    · rw [h3, ← h2]; exact hcp i h1
    · rw [h1, h2]; exact ⟨Int.le_refl _, Int.le_refl _⟩
  · by_cases q : prs n
    · rw [hb n q]
      exact hbal _ (hnl n q) (fun z => hs (hnu _ _ q p0 (by rw [z, n0]))) (fun z => ht (hnu _ _ q p1 (by rw [z, n1])))
    · rw [byLab_bal hl]
      apply sm_zero'
      intro i hi
      rw [if_neg (fun z => q (by rw [← z]; exact (hv i hi).2)), if_neg (fun z => q (by rw [← z]; exact (hu i hi).2))]
      rfl
  · rcases hcase l hl2 with ⟨i, h1, h2, h3⟩ | ⟨h1, h2⟩
    · rw [h3, ← h2] at hlt; rw [← h2]; exact hA i h1 hlt
    · omega
  · rcases hcase l hl2 with ⟨i, h1, h2, h3⟩ | ⟨h1, h2⟩
    · rw [h3] at hlt; rw [← h2]; exact hA i h1 hlt
    · omega
end TR
