/-! finite sums of integers -/
def sm : Nat → (Nat → Int) → Int
  | 0, _ => 0
  | n + 1, f => sm n f + f n
theorem sm_congr {n : Nat} {f g : Nat → Int} (h : ∀ i, i < n → f i = g i) : sm n f = sm n g := by
  induction n with
  | zero => rfl
  | succ n ih => simp only [sm, ih (fun i hi => h i (by omega)), h n (by omega)]
theorem sm_add (n : Nat) (f g : Nat → Int) : sm n (fun i => f i + g i) = sm n f + sm n g := by
  induction n with
  | zero => rfl
  | succ n ih => simp only [sm, ih]; omega
theorem sm_sub (n : Nat) (f g : Nat → Int) : sm n (fun i => f i - g i) = sm n f - sm n g := by
  induction n with
  | zero => rfl
  | succ n ih => simp only [sm, ih]; omega
theorem sm_mulc (n : Nat) (c : Int) (f : Nat → Int) : sm n (fun i => c * f i) = c * sm n f := by
  induction n with
  | zero => simp [sm]
  | succ n ih => simp only [sm, ih, Int.mul_add]
theorem sm_zero (n : Nat) : sm n (fun _ => 0) = 0 := by
  induction n with
  | zero => rfl
  | succ n ih => simp only [sm, ih]; rfl
theorem sm_zero' {n : Nat} {f : Nat → Int} (h : ∀ i, i < n → f i = 0) : sm n f = 0 := by
  rw [sm_congr h, sm_zero]
theorem sm_le {n : Nat} {f g : Nat → Int} (h : ∀ i, i < n → f i ≤ g i) : sm n f ≤ sm n g := by
  induction n with
  | zero => exact Int.le_refl _
  | succ n ih =>
    have h1 := ih (fun i hi => h i (by omega))
    have h2 := h n (by omega)
    simp only [sm]; omega
theorem sm_nn {n : Nat} {f : Nat → Int} (h : ∀ i, i < n → 0 ≤ f i) : 0 ≤ sm n f := by
  have := sm_le (n := n) (f := fun _ => 0) (g := f) h
  rw [sm_zero] at this
  exact this
theorem sm_term {n : Nat} {f : Nat → Int} (h : ∀ i, i < n → 0 ≤ f i) : ∀ i, i < n → f i ≤ sm n f := by
  induction n with
  | zero => intro i hi; omega
  | succ n ih =>
    intro i hi
    have h0 := sm_nn (n := n) (f := f) (fun i hi => h i (by omega))
    have hn := h n (by omega)
    simp only [sm]
    rcases Nat.lt_or_ge i n with q | q
    · have := ih (fun i hi => h i (by omega)) i q; omega
    · have : i = n := by omega
      subst this; omega
theorem sm_z {n : Nat} {f : Nat → Int} (h : ∀ i, i < n → 0 ≤ f i) (hs : sm n f ≤ 0) : ∀ i, i < n → f i = 0 := by
  intro i hi
  have h1 := sm_term h i hi
  have h2 := h i hi
  omega
theorem sm_swap (n m : Nat) (f : Nat → Nat → Int) : sm n (fun i => sm m (fun j => f i j)) = sm m (fun j => sm n (fun i => f i j)) := by
  induction n with
  | zero => simp only [sm]; rw [sm_zero]
  | succ n ih => simp only [sm, ih]; rw [← sm_add]
theorem sm_one {n k : Nat} (x : Int) (h : k < n) : sm n (fun i => if i = k then x else 0) = x := by
  induction n with
  | zero => omega
  | succ n ih =>
    simp only [sm]
    rcases Nat.lt_or_ge k n with q | q
    · rw [ih q, if_neg (by omega)]; omega
    · have : k = n := by omega
      subst this
      rw [sm_zero' (fun i hi => if_neg (by omega)), if_pos rfl]; omega
theorem sm_none {n k : Nat} (x : Int) (h : n ≤ k) : sm n (fun i => if i = k then x else 0) = 0 := sm_zero' (fun i hi => if_neg (by omega))
/-- a sum of one changed term -/
theorem sm_upd {n k : Nat} {f g : Nat → Int} (hk : k < n) (h : ∀ i, i < n → i ≠ k → g i = f i) : sm n g = sm n f + (g k - f k) := by
  have e : sm n (fun i => g i - f i) = g k - f k := by
    rw [← sm_one (n := n) (k := k) (g k - f k) hk]
    apply sm_congr
    intro i hi
    by_cases q : i = k
    · subst q; rw [if_pos rfl]
    · rw [if_neg q, h i hi q]; omega
  rw [sm_sub] at e
  omega
/-- functions of pigeons: more of them than holes is none -/
theorem pigeon : ∀ (N h : Nat) (g : Nat → Nat), (∀ j, j ≤ h → g j < N) → (∀ i j, i ≤ h → j ≤ h → g i = g j → i = j) → h < N
  | 0, h, g, h1, _ => absurd (h1 0 (by omega)) (by omega)
  | N + 1, 0, g, _, _ => by omega
  | N + 1, h + 1, g, h1, h2 => by
    -- move the value N out of the way
    have key : ∃ g' : Nat → Nat, (∀ j, j ≤ h → g' j < N) ∧ ∀ i j, i ≤ h → j ≤ h → g' i = g' j → i = j := by
      refine ⟨fun j => if g j = N then g (h + 1) else g j, fun j hj => ?_, fun i j hi hj e => ?_⟩
      · by_cases q : g j = N
        · simp only [if_pos q]
          have a := h1 (h + 1) (by omega)
          rcases Nat.lt_or_ge (g (h + 1)) N with b | b
          · exact b
          · have : g (h + 1) = g j := by omega
            have := h2 (h + 1) j (by omega) (by omega) this
            omega
        · simp only [if_neg q]
          have a := h1 j (by omega)
          omega
      · by_cases q : g i = N
        · by_cases q2 : g j = N
          · exact h2 i j (by omega) (by omega) (by omega)
          · simp only [if_pos q, if_neg q2] at e
            have := h2 (h + 1) j (by omega) (by omega) e
            omega
        · by_cases q2 : g j = N
          · simp only [if_neg q, if_pos q2] at e
            have := h2 i (h + 1) (by omega) (by omega) e
            omega
          · simp only [if_neg q, if_neg q2] at e
            exact h2 i j (by omega) (by omega) e
    obtain ⟨g', a, b⟩ := key
    have := pigeon N h g' a b
    omega
