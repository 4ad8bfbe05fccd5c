/-! ways of the least price: ne edges fr e -> to e, open where 0 < rm e, price cs e, from s on -/
def wlk (ne : Nat) (fr to : Nat → Nat) (rm cs : Nat → Int) (s : Nat) : Nat → Nat → Int → Prop
  | 0, n, c => n = s ∧ c = 0
  | k + 1, n, c => ∃ e, e < ne ∧ 0 < rm e ∧ to e = n ∧ wlk ne fr to rm cs s k (fr e) (c - cs e)
def pot (ne : Nat) (fr to : Nat → Nat) (rm cs : Nat → Int) (pi : Nat → Int) : Prop := ∀ e, e < ne → 0 < rm e → pi (to e) ≤ pi (fr e) + cs e
section WK
variable {ne : Nat} {fr to : Nat → Nat} {rm cs : Nat → Int} {s : Nat}
theorem wlk_lb {pi : Nat → Int} (hp : pot ne fr to rm cs pi) : ∀ (k n : Nat) (c : Int), wlk ne fr to rm cs s k n c → pi n - pi s ≤ c
  | 0, n, c, h => by
    obtain ⟨rfl, rfl⟩ := h
    omega
  | k + 1, n, c, h => by
    obtain ⟨e, h1, h2, h3, h4⟩ := h
    have h5 := wlk_lb hp k _ _ h4
    have h6 := hp e h1 h2
    rw [h3] at h6
    omega
/-- the least price d of a way to n, the fewest edges h of such a way -/
def opt (ne : Nat) (fr to : Nat → Nat) (rm cs : Nat → Int) (s n : Nat) (d : Int) (h : Nat) : Prop := wlk ne fr to rm cs s h n d ∧ (∀ k c, wlk ne fr to rm cs s k n c → d ≤ c) ∧ ∀ j, j < h → ¬ wlk ne fr to rm cs s j n d
theorem opt_ex {pi : Nat → Int} (hp : pot ne fr to rm cs pi) {k n : Nat} {c : Int} (h : wlk ne fr to rm cs s k n c) : ∃ d h, opt ne fr to rm cs s n d h := by
  have h0 := wlk_lb hp k n c h
  obtain ⟨j, ⟨k1, hj⟩, hmin⟩ := pk_least (fun j => ∃ k, wlk ne fr to rm cs s k n (pi n - pi s + (j : Int))) ⟨(c - (pi n - pi s)).toNat, k, by rw [show pi n - pi s + ((c - (pi n - pi s)).toNat : Int) = c by omega]; exact h⟩
  obtain ⟨h1, hh1, hh2⟩ := pk_least (fun k => wlk ne fr to rm cs s k n (pi n - pi s + (j : Int))) ⟨k1, hj⟩
  refine ⟨_, h1, hh1, fun k2 c2 h2 => ?_, hh2⟩
  have h3 := wlk_lb hp k2 n c2 h2
  apply Int.not_lt.mp
  intro q
  refine hmin (c2 - (pi n - pi s)).toNat (by omega) ⟨k2, ?_⟩
  rw [show pi n - pi s + ((c2 - (pi n - pi s)).toNat : Int) = c2 by omega]
  exact h2
theorem opt_un {n : Nat} {d d' : Int} {h h' : Nat} (a : opt ne fr to rm cs s n d h) (b : opt ne fr to rm cs s n d' h') : d = d' ∧ h = h' := by
  have e : d = d' := by
    have := a.2.1 _ _ b.1
    have := b.2.1 _ _ a.1
    omega
  subst e
  refine ⟨rfl, ?_⟩
  rcases Nat.lt_trichotomy h h' with q | q | q
  · exact absurd a.1 (b.2.2 _ q)
  · exact q
  · exact absurd b.1 (a.2.2 _ q)
theorem opt_pred {n k : Nat} {d : Int} (a : opt ne fr to rm cs s n d (k + 1)) : ∃ e, e < ne ∧ 0 < rm e ∧ to e = n ∧ opt ne fr to rm cs s (fr e) (d - cs e) k := by
  obtain ⟨⟨e, h1, h2, h3, h4⟩, h5, h6⟩ := a
  refine ⟨e, h1, h2, h3, h4, fun k' c' h => ?_, fun j hj h => ?_⟩
  · have := h5 (k' + 1) (c' + cs e) ⟨e, h1, h2, h3, by rw [show c' + cs e - cs e = c' by omega]; exact h⟩
    omega
  · exact h6 (j + 1) (by omega) ⟨e, h1, h2, h3, h⟩
theorem opt_lev {N : Nat} (hfr : ∀ e, e < ne → fr e < N) : ∀ (h n : Nat) (d : Int), n < N → opt ne fr to rm cs s n d h → ∀ j, j ≤ h → ∃ n' d', n' < N ∧ opt ne fr to rm cs s n' d' j
  | 0, n, d, hn, a, j, hj => by
    have : j = 0 := by omega
    subst this
    exact ⟨n, d, hn, a⟩
  | k + 1, n, d, hn, a, j, hj => by
    rcases Nat.lt_or_ge j (k + 1) with q | q
    · obtain ⟨e, h1, -, -, h4⟩ := opt_pred a
      exact opt_lev hfr k _ _ (hfr e h1) h4 j (by omega)
    · have : j = k + 1 := by omega
      subst this
      exact ⟨n, d, hn, a⟩
theorem opt_h {N : Nat} (hfr : ∀ e, e < ne → fr e < N) {h n : Nat} {d : Int} (hn : n < N) (a : opt ne fr to rm cs s n d h) : h < N := by
  have lev := opt_lev hfr h n d hn a
  have ch : ∃ g : Nat → Nat, ∀ j, j ≤ h → g j < N ∧ ∃ d', opt ne fr to rm cs s (g j) d' j := by
    refine ⟨fun j => if q : j ≤ h then (lev j q).choose else 0, fun j hj => ?_⟩
    simp only [dif_pos hj]
    have := (lev j hj).choose_spec
    exact ⟨this.choose_spec.1, _, this.choose_spec.2⟩
  obtain ⟨g, hg⟩ := ch
  refine pigeon N h g (fun j hj => (hg j hj).1) (fun i j hi hj e => ?_)
  obtain ⟨-, d1, o1⟩ := hg i hi
  obtain ⟨-, d2, o2⟩ := hg j hj
  rw [e] at o1
  exact (opt_un o1 o2).2
theorem wlk_low {B : Int} (hc : ∀ e, e < ne → -B ≤ cs e) : ∀ (k n : Nat) (c : Int), wlk ne fr to rm cs s k n c → -(B * k) ≤ c
  | 0, n, c, h => by
    obtain ⟨-, rfl⟩ := h
    simp
  | k + 1, n, c, h => by
    obtain ⟨e, h1, -, -, h4⟩ := h
    have h5 := wlk_low hc k _ _ h4
    have h6 := hc e h1
    have : B * ((k + 1 : Nat) : Int) = B * (k : Int) + B := by
      rw [show ((k + 1 : Nat) : Int) = (k : Int) + 1 by omega, Int.mul_add, Int.mul_one]
    omega
theorem opt_low {N : Nat} {B : Int} (hB : 0 ≤ B) (hfr : ∀ e, e < ne → fr e < N) (hc : ∀ e, e < ne → -B ≤ cs e) {h n : Nat} {d : Int} (hn : n < N) (a : opt ne fr to rm cs s n d h) : -(B * N) ≤ d := by
  have h1 := opt_h hfr hn a
  have h2 := wlk_low hc h n d a.1
  have h3 : B * (h : Int) ≤ B * (N : Int) := Int.mul_le_mul_of_nonneg_left (by omega) hB
  omega
theorem wlk_any {N : Nat} {B : Int} {pi : Nat → Int} (hp : pot ne fr to rm cs pi) (hB : 0 ≤ B) (hfr : ∀ e, e < ne → fr e < N) (hc : ∀ e, e < ne → -B ≤ cs e) {k n : Nat} {c : Int} (hn : n < N) (h : wlk ne fr to rm cs s k n c) : -(B * N) ≤ c := by
  obtain ⟨d, h', o⟩ := opt_ex hp h
  have := opt_low hB hfr hc hn o
  have := o.2.1 _ _ h
  omega
theorem opt_s {pi : Nat → Int} (hp : pot ne fr to rm cs pi) : opt ne fr to rm cs s s 0 0 := by
  refine ⟨⟨rfl, rfl⟩, fun k c h => ?_, fun j hj => absurd hj (by omega)⟩
  have := wlk_lb hp k s c h
  omega
end WK
/-! measuring: far n is E where nothing has come yet -/
def cntF (N : Nat) (E : Int) (far : Nat → Int) : Int := sm N (fun n => if far n < E then 1 else 0)
/-- what holds while distances are bettered -/
def relI (N ne : Nat) (fr to : Nat → Nat) (rm cs : Nat → Int) (s : Nat) (B E : Int) (far : Nat → Int) : Prop :=
  far s = 0 ∧ (∀ n, n < N → far n ≤ E) ∧ (∀ n, n < N → far n < E → (∃ k, wlk ne fr to rm cs s k n (far n)) ∧ far n ≤ B * (cntF N E far - 1))
theorem cntF_le (N : Nat) (E : Int) (far : Nat → Int) : 0 ≤ cntF N E far ∧ cntF N E far ≤ N := by
  constructor
  · exact sm_nn (fun i _ => by split <;> omega)
  · have h := sm_le (n := N) (f := fun n => if far n < E then 1 else 0) (g := fun _ => 1) (fun i _ => by split <;> omega)
    have e : ∀ N : Nat, sm N (fun _ => 1) = N := by
      intro N
      induction N with
      | zero => rfl
      | succ n ih => simp only [sm, ih]; omega
    rw [e] at h
    exact h
section RL
variable {N ne : Nat} {fr to : Nat → Nat} {rm cs : Nat → Int} {s : Nat} {B E : Int} {far : Nat → Int}
theorem relI_0 (hs : s < N) (hE : 0 < E) : relI N ne fr to rm cs s B E (fun n => if n = s then 0 else E) := by
  refine ⟨by simp, fun n _ => ?_, fun n hn h => ?_⟩
  · show (if n = s then 0 else E) ≤ E
    split <;> omega
  · have hn' : n = s := by
      apply Classical.byContradiction
      intro q
      simp only [if_neg q] at h
      omega
    subst hn'
    simp only [if_true]
    refine ⟨⟨0, rfl, rfl⟩, ?_⟩
    have e : cntF N E (fun m => if m = n then 0 else E) = 1 := by
      rw [← sm_one (n := N) (k := n) 1 hn]
      apply sm_congr
      intro i _
      by_cases q : i = n
      · simp [q, hE]
      · simp [q]
    rw [e]
    simp
theorem relI_low {pi : Nat → Int} (hp : pot ne fr to rm cs pi) (hB : 0 ≤ B) (hE : 0 < E) (hfr : ∀ e, e < ne → fr e < N) (hc : ∀ e, e < ne → -B ≤ cs e) (h : relI N ne fr to rm cs s B E far) {n : Nat} (hn : n < N) : -(B * N) ≤ far n := by
  rcases Int.lt_or_le (far n) E with q | q
  · obtain ⟨⟨k, hk⟩, -⟩ := h.2.2 n hn q
    exact wlk_any hp hB hfr hc hn hk
  · have : 0 ≤ B * (N : Int) := Int.mul_nonneg hB (by omega)
    omega
theorem relI_up (hB : 0 ≤ B) (h : relI N ne fr to rm cs s B E far) {n : Nat} (hn : n < N) (hf : far n < E) : far n ≤ B * N := by
  have h1 := (h.2.2 n hn hf).2
  have h2 := (cntF_le N E far).2
  have h3 : B * (cntF N E far - 1) ≤ B * (N : Int) := Int.mul_le_mul_of_nonneg_left (by omega) hB
  omega
/-- a distance is bettered -/
theorem relI_step {pi : Nat → Int} (hp : pot ne fr to rm cs pi) (hB : 0 ≤ B) (hc : ∀ e, e < ne → cs e ≤ B) {e : Nat} (he : e < ne) (hfe : fr e < N) (hte : to e < N) (hr : 0 < rm e) (h : relI N ne fr to rm cs s B E far) (hf : far (fr e) < E) (hl : far (fr e) + cs e < far (to e)) : relI N ne fr to rm cs s B E (fun n => if n = to e then far (fr e) + cs e else far n) := by
  obtain ⟨⟨k, hk⟩, hb⟩ := h.2.2 _ hfe hf
  have hw : wlk ne fr to rm cs s (k + 1) (to e) (far (fr e) + cs e) := ⟨e, he, hr, rfl, by rw [show far (fr e) + cs e - cs e = far (fr e) by omega]; exact hk⟩
  have hns : ¬ s = to e := by
    intro q
    have h1 := wlk_lb hp _ _ _ hw
    rw [← q] at h1 hl
    have := h.1
    omega
  have hle := h.2.1 _ hte
  have hcnt : cntF N E far ≤ cntF N E (fun n => if n = to e then far (fr e) + cs e else far n) := by
    apply sm_le
    intro i _
    by_cases q : i = to e
    · have h9 : far (fr e) + cs e < E := by omega
      simp only [if_pos q, if_pos h9]; split <;> omega
    · simp only [if_neg q]; exact Int.le_refl _
  refine ⟨by simp only [if_neg hns]; exact h.1, fun n hn => ?_, fun n hn hl2 => ?_⟩
  · by_cases q : n = to e
    · simp only [if_pos q]; omega
    · simp only [if_neg q]; exact h.2.1 n hn
  · by_cases q : n = to e
    · simp only [if_pos q]
      subst q
      refine ⟨⟨k + 1, hw⟩, ?_⟩
      rcases Int.lt_or_le (far (to e)) E with z | z
      · have h5 := (h.2.2 _ hte z).2
        have h6 : B * (cntF N E far - 1) ≤ B * (cntF N E (fun n => if n = to e then far (fr e) + cs e else far n) - 1) := Int.mul_le_mul_of_nonneg_left (by omega) hB
        omega
      · have e1 : cntF N E (fun n => if n = to e then far (fr e) + cs e else far n) = cntF N E far + 1 := by
          have h7 := sm_upd (n := N) (k := to e) (f := fun n => if far n < E then (1 : Int) else 0) (g := fun n => if (if n = to e then far (fr e) + cs e else far n) < E then 1 else 0) hte (fun i _ hi => by simp only [if_neg hi])
          simp only [if_true] at h7
          rw [if_pos (by omega), if_neg (by omega)] at h7
          show cntF N E _ = _
          unfold cntF
          rw [h7]; omega
        rw [e1]
        have h8 := hc e he
        have h9 : B * (cntF N E far + 1 - 1) = B * (cntF N E far - 1) + B := by
          rw [show cntF N E far + 1 - 1 = (cntF N E far - 1) + 1 by omega, Int.mul_add, Int.mul_one]
        omega
    · simp only [if_neg q] at hl2 ⊢
      obtain ⟨a1, a2⟩ := h.2.2 n hn hl2
      refine ⟨a1, ?_⟩
      have h6 : B * (cntF N E far - 1) ≤ B * (cntF N E (fun n => if n = to e then far (fr e) + cs e else far n) - 1) := Int.mul_le_mul_of_nonneg_left (by omega) hB
      omega
/-- nothing can be bettered: the distances are the least -/
theorem relI_end {pi : Nat → Int} (hp : pot ne fr to rm cs pi) (hB : 0 ≤ B) (hfr : ∀ e, e < ne → fr e < N) (hto : ∀ e, e < ne → to e < N) (hc : ∀ e, e < ne → cs e ≤ B) (hE : B * N + B < E) (h : relI N ne fr to rm cs s B E far) (hcl : ∀ e, e < ne → 0 < rm e → far (fr e) < E → far (to e) ≤ far (fr e) + cs e) : ∀ (k n : Nat) (c : Int), wlk ne fr to rm cs s k n c → far n < E ∧ far n ≤ c
  | 0, n, c, hw => by
    obtain ⟨rfl, rfl⟩ := hw
    have h1 := h.1
    have h2 : 0 ≤ B * (N : Int) := Int.mul_nonneg hB (by omega)
    exact ⟨by omega, by omega⟩
  | k + 1, n, c, hw => by
    obtain ⟨e, h1, h2, h3, h4⟩ := hw
    obtain ⟨a1, a2⟩ := relI_end hp hB hfr hto hc hE h hcl k _ _ h4
    have h5 := hcl e h1 h2 a1
    have h6 := relI_up hB h (hfr e h1) a1
    have h7 := hc e h1
    rw [h3] at h5
    exact ⟨by omega, by omega⟩
end RL
