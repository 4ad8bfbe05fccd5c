/-! measuring by a line of nodes that wait: how long it lasts -/
theorem wlk_high {ne : Nat} {fr to : Nat → Nat} {rm cs : Nat → Int} {s : Nat} {B : Int} (hc : ∀ e, e < ne → cs e ≤ B) : ∀ (k n : Nat) (c : Int), wlk ne fr to rm cs s k n c → c ≤ B * k
  | 0, n, c, h => by
    obtain ⟨-, rfl⟩ := h
    simp
  | k + 1, n, c, h => by
    obtain ⟨e, h1, -, -, h4⟩ := h
    have h5 := wlk_high hc k _ _ h4
    have h6 := hc e h1
    have : B * ((k + 1 : Nat) : Int) = B * (k : Int) + B := by
      rw [show ((k + 1 : Nat) : Int) = (k : Int) + 1 by omega, Int.mul_add, Int.mul_one]
    omega
/-- q: which node came to the line as the j-th; T have left it, X have come; phase i lasts up to b; xc: edges that are being looked at -/
def msI (N ne : Nat) (fr to : Nat → Nat) (rm cs : Nat → Int) (far sn : Nat → Int) (q : Nat → Nat) (T X i b : Nat) (xc : Nat → Prop) : Prop :=
  relI N ne fr to rm cs 0 7 268435456 far ∧ (T ≤ b ∧ b ≤ X ∧ b ≤ (i + 1) * 324) ∧ (∀ j, T ≤ j → j < X → q j < N ∧ far (q j) < 268435456) ∧ (∀ j j', T ≤ j → j < X → T ≤ j' → j' < X → q j = q j' → j = j') ∧
  (∀ n, n < N → (sn n = 1 ∧ ∃ j, T ≤ j ∧ j < X ∧ q j = n) ∨ (sn n = 0 ∧ ∀ j, T ≤ j → j < X → q j ≠ n)) ∧
  (∀ e, e < ne → 0 < rm e → far (fr e) < 268435456 → far (to e) ≤ far (fr e) + cs e ∨ (∃ j, T ≤ j ∧ j < X ∧ q j = fr e) ∨ xc e) ∧
  (∀ n d h, n < N → opt ne fr to rm cs 0 n d h → h ≤ i → far n ≤ d) ∧
  (∀ e d h, e < ne → 0 < rm e → opt ne fr to rm cs 0 (fr e) d h → h ≤ i → far (to e) ≤ d + cs e ∨ (∃ j, T ≤ j ∧ j < b ∧ q j = fr e) ∨ xc e) ∧
  (∀ j d h, b ≤ j → j < X → opt ne fr to rm cs 0 (q j) d h → i < h) ∧ (∀ j d h, T ≤ j → j < b → opt ne fr to rm cs 0 (q j) d h → i ≤ h)
section MS
variable {N ne : Nat} {fr to : Nat → Nat} {rm cs : Nat → Int} {far sn : Nat → Int} {q : Nat → Nat} {T X i b : Nat}
theorem ms_few {xc : Nat → Prop} (h : msI N ne fr to rm cs far sn q T X i b xc) {y : Nat} (hy : y < N) (hn : ∀ j, T ≤ j → j < X → q j ≠ y) : X - T < N := by
  obtain ⟨-, -, h3, h4, -⟩ := h
  refine pigeon N (X - T) (fun j => if j < X - T then q (T + j) else y) (fun j hj => ?_) (fun j j' hj hj' e => ?_)
  · by_cases z : j < X - T
    · simp only [if_pos z]
      exact (h3 (T + j) (by omega) (by omega)).1
    · simp only [if_neg z]
      exact hy
  · by_cases z : j < X - T
    · by_cases z' : j' < X - T
      · simp only [if_pos z, if_pos z'] at e
        have := h4 (T + j) (T + j') (by omega) (by omega) (by omega) (by omega) e
        omega
      · simp only [if_pos z, if_neg z'] at e
        exact absurd e (hn (T + j) (by omega) (by omega))
    · by_cases z' : j' < X - T
      · simp only [if_neg z, if_pos z'] at e
        exact absurd e.symm (hn (T + j') (by omega) (by omega))
      · omega
theorem ms_few2 {xc : Nat → Prop} (h : msI N ne fr to rm cs far sn q T X i b xc) (hT : T < X) : X - T ≤ N := by
  obtain ⟨-, -, h3, h4, -⟩ := h
  have := pigeon N (X - T - 1) (fun j => q (T + j)) (fun j hj => (h3 (T + j) (by omega) (by omega)).1) (fun j j' hj hj' e => by
    have := h4 (T + j) (T + j') (by omega) (by omega) (by omega) (by omega) e
    omega)
  omega
/-- a phase ends -/
theorem ms_phase (hfr : ∀ e, e < ne → fr e < N) (hN : N ≤ 324) (hc : ∀ e, e < ne → cs e ≤ 7) (h : msI N ne fr to rm cs far sn q T X i b (fun _ => False)) (hT : T = b) (hX : T < X) : msI N ne fr to rm cs far sn q T X (i + 1) X (fun _ => False) := by
  have few := ms_few2 h hX
  obtain ⟨h1, h2, h3, h4, h5, h6, h7, h8, h9, h10⟩ := h
  have F : ∀ n d h, n < N → opt ne fr to rm cs 0 n d h → h ≤ i + 1 → far n ≤ d := by
    intro n d h hn o hh
    rcases Nat.lt_or_ge h (i + 1) with z | z
    · exact h7 n d h hn o (by omega)
    · have : h = i + 1 := by omega
      subst this
      obtain ⟨e, a1, a2, a3, a4⟩ := opt_pred o
      rcases h8 e _ _ a1 a2 a4 (Nat.le_refl _) with z | ⟨j, z1, z2, -⟩ | z
      · rw [a3] at z
        omega
      · omega
      · exact z.elim
  refine ⟨h1, ⟨by omega, Nat.le_refl _, ?_⟩, h3, h4, h5, h6, F, fun e d h he hr o hh => ?_, fun j d h a1 a2 => by omega, fun j d h a1 a2 o => ?_⟩
  · have : (i + 1 + 1) * 324 = (i + 1) * 324 + 324 := by omega
    omega
  · have f1 := F _ d h (hfr e he) o hh
    have f2 := opt_h hfr (hfr e he) o
    have f3 := wlk_high hc _ _ _ o.1
    rcases h6 e he hr (by omega) with z | z | z
    · exact Or.inl (by omega)
    · exact Or.inr (Or.inl z)
    · exact z.elim
  · have := h9 j d h (by omega) a2 o
    omega
/-- the time does not run out -/
theorem ms_time {pi : Nat → Int} (hp : pot ne fr to rm cs pi) (hfr : ∀ e, e < ne → fr e < N) (hN : N ≤ 324) {xc : Nat → Prop} (h : msI N ne fr to rm cs far sn q T X i b xc) (hT : T < b) : T < 104976 := by
  obtain ⟨h1, h2, h3, h4, h5, h6, h7, h8, h9, h10⟩ := h
  obtain ⟨a1, a2⟩ := h3 T (Nat.le_refl _) (by omega)
  obtain ⟨⟨k, hk⟩, -⟩ := h1.2.2 _ a1 a2
  obtain ⟨d, h, o⟩ := opt_ex hp hk
  have b1 := opt_h hfr a1 o
  have b2 := h10 T d h (Nat.le_refl _) hT o
  have : (i + 1) * 324 ≤ 324 * 324 := Nat.mul_le_mul_right 324 (by omega)
  omega
/-- a node leaves the line -/
theorem ms_take {x : Nat} (h : msI N ne fr to rm cs far sn q T X i b (fun _ => False)) (hT : T < b) (hx : q T = x) : msI N ne fr to rm cs far (up sn x 0) q (T + 1) X i b (fun e => fr e = x ∧ e < ne) := by
  obtain ⟨h1, h2, h3, h4, h5, h6, h7, h8, h9, h10⟩ := h
  refine ⟨h1, by omega, fun j a1 a2 => h3 j (by omega) a2, fun j j' a1 a2 a3 a4 => h4 j j' (by omega) a2 (by omega) a4, fun n hn => ?_, fun e he hr hf => ?_, h7, fun e d h he hr o hh => ?_, h9, fun j d h a1 a2 => h10 j d h (by omega) a2⟩
  · by_cases z : n = x
    · subst z
      refine Or.inr ⟨up_at, fun j a1 a2 e => ?_⟩
      have := h4 j T (by omega) a2 (Nat.le_refl _) (by omega) (by rw [e, hx])
      omega
    · rw [up_ne z]
      rcases h5 n hn with ⟨a, j, b1, b2, b3⟩ | ⟨a, b1⟩
      · refine Or.inl ⟨a, j, ?_, b2, b3⟩
        rcases Nat.lt_or_ge T j with y | y
        · exact y
        · have : j = T := by omega
          subst this
          exact absurd (by rw [← b3, hx]) z
      · exact Or.inr ⟨a, fun j c1 c2 => b1 j (by omega) c2⟩
  · rcases h6 e he hr hf with z | ⟨j, b1, b2, b3⟩ | z
    · exact Or.inl z
    · rcases Nat.lt_or_ge T j with y | y
      · exact Or.inr (Or.inl ⟨j, y, b2, b3⟩)
      · have : j = T := by omega
        subst this
        exact Or.inr (Or.inr ⟨by rw [← b3, hx], he⟩)
    · exact z.elim
  · rcases h8 e d h he hr o hh with z | ⟨j, b1, b2, b3⟩ | z
    · exact Or.inl z
    · rcases Nat.lt_or_ge T j with y | y
      · exact Or.inr (Or.inl ⟨j, y, b2, b3⟩)
      · have : j = T := by omega
        subst this
        exact Or.inr (Or.inr ⟨by rw [← b3, hx], he⟩)
    · exact z.elim
/-- an edge that betters nothing -/
theorem ms_skip {x k e : Nat} (h : msI N ne fr to rm cs far sn q T X i b (fun e => fr e = x ∧ e < k)) (hx : x < N) (he : fr e = x) (hek : ∀ y, e < y → y < k → fr y ≠ x) (hn : 0 < rm e → far (to e) ≤ far x + cs e) : msI N ne fr to rm cs far sn q T X i b (fun y => fr y = x ∧ y < e) := by
  obtain ⟨h1, h2, h3, h4, h5, h6, h7, h8, h9, h10⟩ := h
  have key : ∀ y, fr y = x ∧ y < k → y = e ∨ (fr y = x ∧ y < e) := fun y z => by
    rcases Nat.lt_trichotomy y e with a | a | a
    · exact Or.inr ⟨z.1, a⟩
    · exact Or.inl a
    · exact absurd z.1 (hek y a z.2)
  refine ⟨h1, h2, h3, h4, h5, fun y hy hr hf => ?_, h7, fun y d h hy hr o hh => ?_, h9, h10⟩
  · rcases h6 y hy hr hf with z | z | z
    · exact Or.inl z
    · exact Or.inr (Or.inl z)
    · rcases key y z with a | a
      · subst a
        rw [he]
        exact Or.inl (hn hr)
      · exact Or.inr (Or.inr a)
  · rcases h8 y d h hy hr o hh with z | z | z
    · exact Or.inl z
    · exact Or.inr (Or.inl z)
    · rcases key y z with a | a
      · subst a
        rw [he] at o
        have := h7 x d h hx o hh
        have := hn hr
        exact Or.inl (by omega)
      · exact Or.inr (Or.inr a)
/-- an edge that betters a node -/
theorem ms_better {pi : Nat → Int} (hp : pot ne fr to rm cs pi) (hc : ∀ e, e < ne → cs e ≤ 7) {x k e : Nat} (h : msI N ne fr to rm cs far sn q T X i b (fun e => fr e = x ∧ e < k)) (hfx : far x < 268435456) (he0 : e < ne) (he : fr e = x) (hx : x < N) (hte : to e < N) (hr : 0 < rm e) (hek : ∀ y, e < y → y < k → fr y ≠ x) (hl : far x + cs e < far (to e)) :
    to e ≠ x ∧ (sn (to e) ≠ 0 → msI N ne fr to rm cs (up far (to e) (far x + cs e)) sn q T X i b (fun y => fr y = x ∧ y < e)) ∧ (sn (to e) = 0 → msI N ne fr to rm cs (up far (to e) (far x + cs e)) (up sn (to e) 1) (ex q X (to e)) T (X + 1) i b (fun y => fr y = x ∧ y < e) ∧ ∀ j, T ≤ j → j < X → q j ≠ to e) := by
  have few := h
  obtain ⟨h1, h2, h3, h4, h5, h6, h7, h8, h9, h10⟩ := h
  have r1 := relI_step hp (by decide) hc he0 (by rw [he]; exact hx) hte hr h1 (by rw [he]; exact hfx) (by rw [he]; exact hl)
  rw [he] at r1
  have r2 : relI N ne fr to rm cs 0 7 268435456 (up far (to e) (far x + cs e)) := r1
  have le : ∀ n, up far (to e) (far x + cs e) n ≤ far n := fun n => by
    unfold up
    by_cases z : n = to e
    · rw [if_pos z, z]; omega
    · rw [if_neg z]; omega
  have nx : to e ≠ x := fun z => by
    have := hp e he0 hr
    rw [he, z] at this
    rw [z] at hl
    omega
  have key : ∀ y, fr y = x ∧ y < k → y = e ∨ (fr y = x ∧ y < e) := fun y z => by
    rcases Nat.lt_trichotomy y e with a | a | a
    · exact Or.inr ⟨z.1, a⟩
    · exact Or.inl a
    · exact absurd z.1 (hek y a z.2)
  have lt := h1.2.1 _ hte
  have A7 : ∀ n d h, n < N → opt ne fr to rm cs 0 n d h → h ≤ i → up far (to e) (far x + cs e) n ≤ d := fun n d h hn o hh => by
    have := h7 n d h hn o hh
    have := le n
    omega
  have A8 : ∀ y d h, y < ne → 0 < rm y → opt ne fr to rm cs 0 (fr y) d h → h ≤ i → up far (to e) (far x + cs e) (to y) ≤ d + cs y ∨ (∃ j, T ≤ j ∧ j < b ∧ q j = fr y) ∨ (fr y = x ∧ y < e) := fun y d h hy hry o hh => by
    rcases h8 y d h hy hry o hh with z | z | z
    · have := le (to y)
      exact Or.inl (by omega)
    · exact Or.inr (Or.inl z)
    · rcases key y z with a | a
      · subst a
        rw [up_at]
        rw [he] at o
        have := h7 x d h hx o hh
        exact Or.inl (by omega)
      · exact Or.inr (Or.inr a)
  refine ⟨nx, fun hsn => ?_, fun hsn => ?_⟩
  · have inq : ∃ j, T ≤ j ∧ j < X ∧ q j = to e := by
      rcases h5 _ hte with ⟨-, z⟩ | ⟨z, -⟩
      · exact z
      · exact absurd z hsn
    refine ⟨r2, h2, fun j a1 a2 => ?_, h4, h5, fun y hy hry hf => ?_, A7, A8, h9, h10⟩
    · have := h3 j a1 a2
      have := le (q j)
      exact ⟨by omega, by omega⟩
    · by_cases z : fr y = to e
      · rw [z]
        exact Or.inr (Or.inl inq)
      · rw [up_ne z] at hf ⊢
        rcases h6 y hy hry hf with a | a | a
        · have := le (to y)
          exact Or.inl (by omega)
        · exact Or.inr (Or.inl a)
        · rcases key y a with c | c
          · subst c
            rw [up_at, he]
            exact Or.inl (Int.le_refl _)
          · exact Or.inr (Or.inr c)
  · have nin : ∀ j, T ≤ j → j < X → q j ≠ to e := by
      rcases h5 _ hte with ⟨z, -⟩ | ⟨-, z⟩
      · omega
      · exact z
    have qx : ∀ j, j < X → ex q X (to e) j = q j := fun j hj => ex_ne (by omega)
    refine ⟨⟨r2, by omega, fun j a1 a2 => ?_, fun j j' a1 a2 a3 a4 hh => ?_, fun n hn => ?_, fun y hy hry hf => ?_, A7, fun y d h hy hry o hh => ?_, fun j d h a1 a2 o => ?_, fun j d h a1 a2 o => ?_⟩, nin⟩
    · by_cases z : j = X
      · subst z
        rw [ex_at, up_at]
        exact ⟨hte, by omega⟩
      · rw [qx j (by omega)]
        have := h3 j a1 (by omega)
        have := le (q j)
        exact ⟨by omega, by omega⟩
    · by_cases z : j = X
      · by_cases z' : j' = X
        · omega
        · rw [z, ex_at, qx j' (by omega)] at hh
          exact absurd hh.symm (nin j' a3 (by omega))
      · by_cases z' : j' = X
        · rw [z', ex_at, qx j (by omega)] at hh
          exact absurd hh (nin j a1 (by omega))
        · rw [qx j (by omega), qx j' (by omega)] at hh
          exact h4 j j' a1 (by omega) a3 (by omega) hh
    · by_cases z : n = to e
      · subst z
        exact Or.inl ⟨up_at, X, by omega, by omega, ex_at⟩
      · rw [up_ne z]
        rcases h5 n hn with ⟨a, j, c1, c2, c3⟩ | ⟨a, c1⟩
        · exact Or.inl ⟨a, j, c1, by omega, by rw [qx j c2]; exact c3⟩
        · refine Or.inr ⟨a, fun j d1 d2 => ?_⟩
          by_cases y : j = X
          · subst y
            rw [ex_at]
            exact fun w => z w.symm
          · rw [qx j (by omega)]
            exact c1 j d1 (by omega)
    · by_cases z : fr y = to e
      · exact Or.inr (Or.inl ⟨X, by omega, by omega, by rw [ex_at, z]⟩)
      · rw [up_ne z] at hf ⊢
        rcases h6 y hy hry hf with a | ⟨j, c1, c2, c3⟩ | a
        · have := le (to y)
          exact Or.inl (by omega)
        · exact Or.inr (Or.inl ⟨j, c1, by omega, by rw [qx j c2]; exact c3⟩)
        · rcases key y a with c | c
          · subst c
            rw [up_at, he]
            exact Or.inl (Int.le_refl _)
          · exact Or.inr (Or.inr c)
    · rcases A8 y d h hy hry o hh with a | ⟨j, c1, c2, c3⟩ | a
      · exact Or.inl a
      · exact Or.inr (Or.inl ⟨j, c1, c2, by rw [qx j (by omega)]; exact c3⟩)
      · exact Or.inr (Or.inr a)
    · by_cases z : j = X
      · subst z
        rw [ex_at] at o
        apply Nat.lt_of_not_le
        intro hh
        have c1 := h7 _ d h hte o hh
        obtain ⟨⟨k2, hk2⟩, -⟩ := r2.2.2 _ hte (by rw [up_at]; omega)
        rw [up_at] at hk2
        have := o.2.1 _ _ hk2
        omega
      · rw [qx j (by omega)] at o
        exact h9 j d h a1 (by omega) o
    · rw [qx j (by omega)] at o
      exact h10 j d h a1 a2 o
end MS
