/-! nets: m edges u i -> v i (nodes below N), room cp i, price w i; what flows f -/
def bal (m : Nat) (u v : Nat → Nat) (f : Nat → Int) (n : Nat) : Int := sm m (fun i => (if v i = n then f i else 0) - (if u i = n then f i else 0))
/-- the sum of price differences by what comes and goes at nodes -/
theorem bal_sum (N m : Nat) (u v : Nat → Nat) (f : Nat → Int) (pi : Nat → Int) (hu : ∀ i, i < m → u i < N) (hv : ∀ i, i < m → v i < N) : sm m (fun i => (pi (v i) - pi (u i)) * f i) = sm N (fun n => pi n * bal m u v f n) := by
  have e1 : ∀ n, pi n * bal m u v f n = sm m (fun i => (if v i = n then pi n * f i else 0) - (if u i = n then pi n * f i else 0)) := by
    intro n
    rw [bal, ← sm_mulc]
    apply sm_congr
    intro i _
    rw [Int.mul_sub]
    congr 1 <;> (split <;> simp)
  rw [sm_congr (n := N) (fun n _ => e1 n), sm_swap]
  apply sm_congr
  intro i hi
  rw [sm_sub]
  have a : sm N (fun n => if v i = n then pi n * f i else 0) = pi (v i) * f i := by
    rw [← sm_one (n := N) (k := v i) (pi (v i) * f i) (hv i hi)]
    apply sm_congr
    intro n _
    by_cases q : v i = n
    · rw [if_pos q, if_pos q.symm, q]
    · rw [if_neg q, if_neg (fun z => q z.symm)]
  have b : sm N (fun n => if u i = n then pi n * f i else 0) = pi (u i) * f i := by
    rw [← sm_one (n := N) (k := u i) (pi (u i) * f i) (hu i hi)]
    apply sm_congr
    intro n _
    by_cases q : u i = n
    · rw [if_pos q, if_pos q.symm, q]
    · rw [if_neg q, if_neg (fun z => q z.symm)]
  rw [a, b, Int.sub_mul]
theorem bal_sub (m : Nat) (u v : Nat → Nat) (f g : Nat → Int) (n : Nat) : bal m u v (fun i => g i - f i) n = bal m u v g n - bal m u v f n := by
  rw [bal, bal, bal, ← sm_sub]
  apply sm_congr
  intro i _
  split <;> split <;> omega
theorem bal_all (N m : Nat) (u v : Nat → Nat) (f : Nat → Int) (hu : ∀ i, i < m → u i < N) (hv : ∀ i, i < m → v i < N) : sm N (fun n => bal m u v f n) = 0 := by
  have h := bal_sum N m u v f (fun _ => 1) hu hv
  rw [sm_congr (n := N) (f := fun n => 1 * bal m u v f n) (g := fun n => bal m u v f n) (fun n _ => by rw [Int.one_mul])] at h
  rw [← h]
  exact sm_zero' (fun i _ => by simp)
/-- what flows is balanced but at s and t -/
def balanced (N m : Nat) (u v : Nat → Nat) (s t : Nat) (f : Nat → Int) : Prop := ∀ n, n < N → n ≠ s → n ≠ t → bal m u v f n = 0
theorem sm_two {N s t : Nat} {f : Nat → Int} (hs : s < N) (ht : t < N) (hst : s ≠ t) (h : ∀ n, n < N → n ≠ s → n ≠ t → f n = 0) : sm N f = f s + f t := by
  have e : sm N f = sm N (fun n => (if n = s then f s else 0) + (if n = t then f t else 0)) := by
    apply sm_congr
    intro n hn
    by_cases a : n = s
    · subst a; rw [if_pos rfl, if_neg hst]; omega
    · by_cases b : n = t
      · subst b; rw [if_pos rfl, if_neg a]; omega
      · rw [if_neg a, if_neg b, h n hn a b]; rfl
  rw [e, sm_add, sm_one _ hs, sm_one _ ht]
/-- the difference of two flows, weighed by prices -/
theorem flow_diff {N m : Nat} {u v : Nat → Nat} {s t : Nat} {f g : Nat → Int} (pi : Nat → Int) (hu : ∀ i, i < m → u i < N) (hv : ∀ i, i < m → v i < N) (hs : s < N) (ht : t < N) (hst : s ≠ t) (hf : balanced N m u v s t f) (hg : balanced N m u v s t g) : sm m (fun i => (pi (v i) - pi (u i)) * (g i - f i)) = (pi t - pi s) * (bal m u v g t - bal m u v f t) := by
  have hd : ∀ n, n < N → n ≠ s → n ≠ t → bal m u v (fun i => g i - f i) n = 0 := fun n hn a b => by
    rw [bal_sub, hf n hn a b, hg n hn a b]; rfl
  have h1 := bal_sum N m u v (fun i => g i - f i) pi hu hv
  rw [h1]
  rw [sm_two hs ht hst (f := fun n => pi n * bal m u v (fun i => g i - f i) n) (fun n hn a b => by rw [hd n hn a b, Int.mul_zero])]
  have h2 := bal_all N m u v (fun i => g i - f i) hu hv
  rw [sm_two hs ht hst hd] at h2
  have h3 : bal m u v (fun i => g i - f i) s = -bal m u v (fun i => g i - f i) t := by omega
  rw [h3, bal_sub, Int.sub_mul, Int.mul_neg]
  omega
/-- no more can flow, if what can be come to holds the one end and not the other -/
theorem flow_max {N m : Nat} {u v : Nat → Nat} {s t : Nat} {f g cp : Nat → Int} (R : Nat → Bool) (hu : ∀ i, i < m → u i < N) (hv : ∀ i, i < m → v i < N) (hs : s < N) (ht : t < N) (hst : s ≠ t) (hf : balanced N m u v s t f) (hg : balanced N m u v s t g)
    (hgb : ∀ i, i < m → 0 ≤ g i ∧ g i ≤ cp i) (hRs : R s = true) (hRt : R t = false) (h1 : ∀ i, i < m → f i < cp i → R (u i) = true → R (v i) = true) (h2 : ∀ i, i < m → 0 < f i → R (v i) = true → R (u i) = true) : bal m u v g t ≤ bal m u v f t := by
  have h := flow_diff (fun n => if R n = true then 0 else 1) hu hv hs ht hst hf hg
  simp only [hRs, hRt, if_true] at h
  have hle : sm m (fun i => ((if R (v i) = true then 0 else 1) - (if R (u i) = true then 0 else 1)) * (g i - f i)) ≤ sm m (fun _ => 0) := by
    apply sm_le
    intro i hi
    have hb := hgb i hi
    by_cases a : R (u i) = true
    · by_cases b : R (v i) = true
      · simp only [if_pos a, if_pos b]; omega
      · have : ¬ f i < cp i := fun q => b (h1 i hi q a)
        simp only [if_pos a, if_neg b]; omega
    · by_cases b : R (v i) = true
      · have : ¬ 0 < f i := fun q => a (h2 i hi q b)
        simp only [if_neg a, if_pos b]; omega
      · simp only [if_neg a, if_neg b]; omega
  rw [sm_zero] at hle
  rw [h] at hle
  simp at hle
  omega
/-- nothing that flows as much is cheaper, if prices can be set so that every way left open costs something -/
theorem flow_min {N m : Nat} {u v : Nat → Nat} {s t : Nat} {f g cp w : Nat → Int} (pi : Nat → Int) (hu : ∀ i, i < m → u i < N) (hv : ∀ i, i < m → v i < N) (hs : s < N) (ht : t < N) (hst : s ≠ t) (hf : balanced N m u v s t f) (hg : balanced N m u v s t g)
    (hgb : ∀ i, i < m → 0 ≤ g i ∧ g i ≤ cp i) (hfb : ∀ i, i < m → 0 ≤ f i ∧ f i ≤ cp i) (h1 : ∀ i, i < m → f i < cp i → pi (v i) ≤ pi (u i) + w i) (h2 : ∀ i, i < m → 0 < f i → pi (u i) + w i ≤ pi (v i)) (he : bal m u v g t = bal m u v f t) : sm m (fun i => w i * f i) ≤ sm m (fun i => w i * g i) := by
  have h := flow_diff pi hu hv hs ht hst hf hg
  rw [he, Int.sub_self, Int.mul_zero] at h
  have hle : sm m (fun _ => 0) ≤ sm m (fun i => (w i + pi (u i) - pi (v i)) * (g i - f i)) := by
    apply sm_le
    intro i hi
    have hb := hgb i hi
    have hc := hfb i hi
    by_cases a : f i < cp i
    · have q1 := h1 i hi a
      by_cases b : 0 < f i
      · have q2 := h2 i hi b
        rw [show w i + pi (u i) - pi (v i) = 0 by omega]; omega
      · exact Int.mul_nonneg (by omega) (by omega)
    · by_cases b : 0 < f i
      · have q2 := h2 i hi b
        have e : (w i + pi (u i) - pi (v i)) * (g i - f i) = (pi (v i) - (w i + pi (u i))) * (f i - g i) := by
          rw [show w i + pi (u i) - pi (v i) = -(pi (v i) - (w i + pi (u i))) by omega, show g i - f i = -(f i - g i) by omega, Int.neg_mul_neg]
        rw [e]
        exact Int.mul_nonneg (by omega) (by omega)
      · rw [show g i - f i = 0 by omega]; omega
  rw [sm_zero] at hle
  have e : sm m (fun i => (w i + pi (u i) - pi (v i)) * (g i - f i)) = (sm m (fun i => w i * g i) - sm m (fun i => w i * f i)) - sm m (fun i => (pi (v i) - pi (u i)) * (g i - f i)) := by
    rw [← sm_sub, ← sm_sub]
    apply sm_congr
    intro i _
    rw [← Int.mul_sub, ← Int.sub_mul]
    congr 1; omega
  rw [e, h] at hle
  omega
