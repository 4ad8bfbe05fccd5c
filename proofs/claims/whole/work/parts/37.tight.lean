/-! no more is fed than there are men, no bread goes more than twice seven places -/
def pi14 (n : Nat) : Int := if n = 1 then 14 else if n < 10 then 0 else if n < 20 then 14 else 7
theorem cBest_14 {cp w : Nat → Int} {v c : Int} (h : cBest cp w v c) (h1 : ∀ l, l < 1994 → 0 ≤ w l ∧ w l ≤ 7) (h2 : ∀ l, l < 322 → w l = 0) : 0 ≤ c ∧ c ≤ 14 * v := by
  obtain ⟨phi, R, pi, ⟨a1, a2⟩, b1, b2, b3, b4, b5, b6, b7, b8⟩ := h
  have s := bal_sum 324 1994 cU cV phi pi14 (fun i hi => cU_lt hi) (fun i hi => cV_lt hi)
  have e : sm 324 (fun n => pi14 n * bal 1994 cU cV phi n) = 14 * v := by
    have : ∀ n, n < 324 → pi14 n * bal 1994 cU cV phi n = if n = 1 then 14 * v else 0 := fun n hn => by
      by_cases z1 : n = 1
      · rw [if_pos z1, z1, ← b5]; rfl
      · rw [if_neg z1]
        by_cases z0 : n = 0
        · rw [z0]
          show (0 : Int) * _ = 0
          rw [Int.zero_mul]
        · rw [a2 n hn z0 z1, Int.mul_zero]
    rw [sm_congr this, sm_one (14 * v) (by decide)]
  rw [e] at s
  constructor
  · rw [b8]
    exact sm_nn (fun l hl => Int.mul_nonneg (h1 l hl).1 (a1 l hl).1)
  · rw [b8, ← s]
    apply sm_le
    intro l hl
    apply Int.mul_le_mul_of_nonneg_right _ (a1 l hl).1
    have x1 := h1 l hl
    have x2 := h2 l
    unfold pi14 cU cV
    repeat' split
    all_goals omega
theorem cBest_men {cp w : Nat → Int} {v c : Int} (h : cBest cp w v c) : 0 ≤ v ∧ v ≤ sm 10 (fun u => cp (8 + u)) := by
  obtain ⟨phi, R, pi, ⟨a1, a2⟩, b1, b2, b3, b4, b5, b6, b7, b8⟩ := h
  have e : bal 1994 cU cV phi 1 = sm 1994 (fun l => if 8 ≤ l ∧ l < 18 then phi l else 0) := by
    unfold bal
    apply sm_congr
    intro l hl
    have x1 : cU l ≠ 1 := by
      unfold cU
      repeat' split
      all_goals omega
    have x2 : cV l = 1 ↔ 8 ≤ l ∧ l < 18 := by
      unfold cV
      repeat' split
      all_goals omega
    rw [if_neg x1, Int.sub_zero]
    by_cases z : 8 ≤ l ∧ l < 18
    · rw [if_pos (x2.2 z), if_pos z]
    · rw [if_neg (fun y => z (x2.1 y)), if_neg z]
  have d : sm 1994 (fun l => if 8 ≤ l ∧ l < 18 then phi l else 0) = sm 10 (fun x => phi (8 + x)) := by
    rw [show (1994 : Nat) = 8 + (10 + 1976) from rfl, sm_split, sm_split]
    rw [sm_zero' (n := 8) (fun i hi => if_neg (by omega)), sm_zero' (n := 1976) (fun i hi => if_neg (by omega))]
    rw [sm_congr (n := 10) (g := fun x => phi (8 + x)) (fun i hi => by rw [if_pos (by omega)])]
    omega
  rw [b5, e, d]
  exact ⟨sm_nn (fun i hi => (a1 (8 + i) (by omega)).1), sm_le (fun i hi => (a1 (8 + i) (by omega)).2)⟩
