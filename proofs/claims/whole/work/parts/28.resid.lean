/-! what is left open: edge 2 i goes u i -> v i, edge 2 i + 1 back; what flows is the room of the way back -/
def mate (e : Nat) : Nat := if e % 2 = 0 then e + 1 else e - 1
def eF (u v : Nat → Nat) (e : Nat) : Nat := if e % 2 = 0 then u (e / 2) else v (e / 2)
def eT (u v : Nat → Nat) (e : Nat) : Nat := if e % 2 = 0 then v (e / 2) else u (e / 2)
def eC (w : Nat → Int) (e : Nat) : Int := if e % 2 = 0 then w (e / 2) else -w (e / 2)
def fl (rm : Nat → Int) (i : Nat) : Int := rm (2 * i + 1)
def rmU (rm : Nat → Int) (e : Nat) (x : Int) : Nat → Int := fun y => if y = e then rm e - x else if y = mate e then rm (mate e) + x else rm y
theorem mate_ne (e : Nat) : mate e ≠ e := by unfold mate; split <;> omega
theorem mate_mate (e : Nat) : mate (mate e) = e := by unfold mate; split <;> split <;> omega
theorem mate_lt {e m : Nat} (h : e < 2 * m) : mate e < 2 * m := by unfold mate; split <;> omega
theorem eF_mate (u v : Nat → Nat) (e : Nat) : eF u v (mate e) = eT u v e := by
  unfold eF eT mate
  by_cases h : e % 2 = 0
  · rw [if_pos h, if_pos h, if_neg (by omega), show (e + 1) / 2 = e / 2 by omega]
  · rw [if_neg h, if_neg h, if_pos (by omega), show (e - 1) / 2 = e / 2 by omega]
theorem eT_mate (u v : Nat → Nat) (e : Nat) : eT u v (mate e) = eF u v e := by
  unfold eF eT mate
  by_cases h : e % 2 = 0
  · rw [if_pos h, if_pos h, if_neg (by omega), show (e + 1) / 2 = e / 2 by omega]
  · rw [if_neg h, if_neg h, if_pos (by omega), show (e - 1) / 2 = e / 2 by omega]
theorem eC_mate (w : Nat → Int) (e : Nat) : eC w (mate e) = -eC w e := by
  unfold eC mate
  by_cases h : e % 2 = 0
  · rw [if_pos h, if_pos h, if_neg (by omega), show (e + 1) / 2 = e / 2 by omega]
  · rw [if_neg h, if_neg h, if_pos (by omega), show (e - 1) / 2 = e / 2 by omega]; omega
theorem e_ev (u v : Nat → Nat) (w : Nat → Int) (i : Nat) : eF u v (2 * i) = u i ∧ eT u v (2 * i) = v i ∧ eC w (2 * i) = w i := by
  unfold eF eT eC
  rw [if_pos (by omega), if_pos (by omega), if_pos (by omega), show 2 * i / 2 = i by omega]
  exact ⟨rfl, rfl, rfl⟩
theorem e_od (u v : Nat → Nat) (w : Nat → Int) (i : Nat) : eF u v (2 * i + 1) = v i ∧ eT u v (2 * i + 1) = u i ∧ eC w (2 * i + 1) = -w i := by
  unfold eF eT eC
  rw [if_neg (by omega), if_neg (by omega), if_neg (by omega), show (2 * i + 1) / 2 = i by omega]
  exact ⟨rfl, rfl, rfl⟩
theorem mate_ev (i : Nat) : mate (2 * i) = 2 * i + 1 := by unfold mate; rw [if_pos (by omega)]
theorem mate_od (i : Nat) : mate (2 * i + 1) = 2 * i := by unfold mate; rw [if_neg (by omega)]; omega
theorem e_lt {m N : Nat} {u v : Nat → Nat} (h : ∀ i, i < m → u i < N ∧ v i < N) {e : Nat} (he : e < 2 * m) : eF u v e < N ∧ eT u v e < N := by
  have := h (e / 2) (by omega)
  unfold eF eT
  split
  · exact ⟨this.1, this.2⟩
  · exact ⟨this.2, this.1⟩
theorem e_cases (e : Nat) : e = 2 * (e / 2) ∨ e = 2 * (e / 2) + 1 := by omega
/-- one edge takes x more: what flows in its pair -/
theorem fl_rmU {m : Nat} {rm : Nat → Int} {e : Nat} (x : Int) (i : Nat) : fl (rmU rm e x) i = if i = e / 2 then fl rm i + (if e % 2 = 0 then x else -x) else fl rm i := by
  unfold fl rmU
  rcases e_cases e with q | q
  · rw [q, mate_ev]
    by_cases h : i = e / 2
    · subst h
      rw [if_neg (by omega), if_pos rfl, if_pos (by omega), if_pos (by omega)]
    · rw [if_neg (by omega), if_neg (by omega), if_neg (by omega)]
  · rw [q, mate_od]
    by_cases h : i = e / 2
    · subst h
      rw [if_pos rfl, if_pos (by omega), if_neg (by omega)]; omega
    · rw [if_neg (by omega), if_neg (by omega), if_neg (by omega)]
theorem bal_rmU {m : Nat} {u v : Nat → Nat} {rm : Nat → Int} {e : Nat} (he : e < 2 * m) (x : Int) (n : Nat) : bal m u v (fl (rmU rm e x)) n = bal m u v (fl rm) n + ((if n = eT u v e then x else 0) - (if n = eF u v e then x else 0)) := by
  have hk : e / 2 < m := by omega
  rw [bal, bal, sm_upd (f := fun i => (if v i = n then fl rm i else 0) - (if u i = n then fl rm i else 0)) (k := e / 2) hk (fun i _ hi => by simp only [fl_rmU (m := m), if_neg hi])]
  simp only [fl_rmU (m := m), if_true]
  rcases e_cases e with q | q
  · have e1 := e_ev u v (fun _ => 0) (e / 2)
    rw [← q] at e1
    rw [e1.1, e1.2.1, if_pos (show e % 2 = 0 by omega)]
    by_cases a : v (e / 2) = n <;> by_cases b : u (e / 2) = n
    · simp only [if_pos a, if_pos b, if_pos a.symm, if_pos b.symm]; omega
    · simp only [if_pos a, if_neg b, if_pos a.symm, if_neg (Ne.symm b)]; omega
    · simp only [if_neg a, if_pos b, if_neg (Ne.symm a), if_pos b.symm]; omega
    · simp only [if_neg a, if_neg b, if_neg (Ne.symm a), if_neg (Ne.symm b)]; omega
  · have e1 := e_od u v (fun _ => 0) (e / 2)
    rw [← q] at e1
    rw [e1.1, e1.2.1, if_neg (show ¬ e % 2 = 0 by omega)]
    by_cases a : v (e / 2) = n <;> by_cases b : u (e / 2) = n
    · simp only [if_pos a, if_pos b, if_pos a.symm, if_pos b.symm]; omega
    · simp only [if_pos a, if_neg b, if_pos a.symm, if_neg (Ne.symm b)]; omega
    · simp only [if_neg a, if_pos b, if_neg (Ne.symm a), if_pos b.symm]; omega
    · simp only [if_neg a, if_neg b, if_neg (Ne.symm a), if_neg (Ne.symm b)]; omega
theorem cost_rmU {m : Nat} {w : Nat → Int} {rm : Nat → Int} {e : Nat} (he : e < 2 * m) (x : Int) : sm m (fun i => w i * fl (rmU rm e x) i) = sm m (fun i => w i * fl rm i) + x * eC w e := by
  have hk : e / 2 < m := by omega
  rw [sm_upd (f := fun i => w i * fl rm i) (k := e / 2) hk (fun i _ hi => by simp only [fl_rmU (m := m), if_neg hi])]
  simp only [fl_rmU (m := m), if_true]
  rw [← Int.mul_sub]
  congr 1
  rcases e_cases e with q | q
  · rw [if_pos (show e % 2 = 0 by omega), eC, if_pos (show e % 2 = 0 by omega), show fl rm (e / 2) + x - fl rm (e / 2) = x by omega, Int.mul_comm]
  · rw [if_neg (show ¬ e % 2 = 0 by omega), eC, if_neg (show ¬ e % 2 = 0 by omega), show fl rm (e / 2) + -x - fl rm (e / 2) = -x by omega, Int.mul_neg, Int.mul_neg, Int.mul_comm]
theorem cap_rmU {rm : Nat → Int} {e : Nat} (x : Int) (i : Nat) : rmU rm e x (2 * i) + rmU rm e x (2 * i + 1) = rm (2 * i) + rm (2 * i + 1) := by
  unfold rmU
  rcases e_cases e with q | q
  · rw [q, mate_ev]
    by_cases h : i = e / 2
    · subst h
      rw [if_pos rfl, if_neg (by omega), if_pos rfl]; omega
    · rw [if_neg (by omega), if_neg (by omega), if_neg (by omega), if_neg (by omega)]
  · rw [q, mate_od]
    by_cases h : i = e / 2
    · subst h
      rw [if_neg (by omega), if_pos rfl, if_pos rfl]; omega
    · rw [if_neg (by omega), if_neg (by omega), if_neg (by omega), if_neg (by omega)]
/-- the state of a net that is being filled -/
def Rs (m N : Nat) (u v : Nat → Nat) (w cp : Nat → Int) (s t : Nat) (rm : Nat → Int) : Prop := (∀ i, i < m → u i < N ∧ v i < N) ∧ (∀ e, e < 2 * m → 0 ≤ rm e) ∧ (∀ i, i < m → rm (2 * i) + rm (2 * i + 1) = cp i) ∧ balanced N m u v s t (fl rm) ∧ ∃ pi, pot (2 * m) (eF u v) (eT u v) rm (eC w) pi
/-- prices out of distances: where nothing has come the old ones, far up -/
theorem pot_far {m N : Nat} {u v : Nat → Nat} {w rm : Nat → Int} {s : Nat} {B E : Int} {far : Nat → Int} (hl : ∀ i, i < m → u i < N ∧ v i < N) (hB : 0 ≤ B) (hc : ∀ e, e < 2 * m → -B ≤ eC w e ∧ eC w e ≤ B) (hE : B * N + B < E) {pi : Nat → Int} (hp : pot (2 * m) (eF u v) (eT u v) rm (eC w) pi) (hr : relI N (2 * m) (eF u v) (eT u v) rm (eC w) s B E far) (hcl : ∀ e, e < 2 * m → 0 < rm e → far (eF u v e) < E → far (eT u v e) ≤ far (eF u v e) + eC w e) : ∃ pj : Nat → Int, pot (2 * m) (eF u v) (eT u v) rm (eC w) pj ∧ ∀ n, n < N → far n < E → pj n = far n := by
  -- a bound from below for the old prices
  have hlow : ∀ M : Nat, ∃ z : Int, ∀ n, n < M → z ≤ pi n := by
    intro M
    induction M with
    | zero => exact ⟨0, fun n hn => by omega⟩
    | succ k ih =>
      obtain ⟨z, hz⟩ := ih
      refine ⟨min z (pi k), fun n hn => ?_⟩
      rcases Nat.lt_or_ge n k with q | q
      · have := hz n q; omega
      · have : n = k := by omega
        subst this; omega
  obtain ⟨z, hz⟩ := hlow N
  refine ⟨fun n => if far n < E then far n else pi n - z + (E + B), ?_, fun n hn h => if_pos h⟩
  intro e he hre
  obtain ⟨f1, f2⟩ := e_lt hl he
  have hce := hc e he
  by_cases a : far (eF u v e) < E
  · have h1 := hcl e he hre a
    have h2 := relI_up hB hr f1 a
    have h3 : far (eT u v e) < E := by omega
    simp only [if_pos a, if_pos h3]
    exact h1
  · by_cases b : far (eT u v e) < E
    · simp only [if_neg a, if_pos b]
      have := hz _ f1
      omega
    · simp only [if_neg a, if_neg b]
      have := hp e he hre
      omega
