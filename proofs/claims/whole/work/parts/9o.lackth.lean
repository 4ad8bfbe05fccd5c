/-! all fed up to a day, so all fed up to the day before -/
theorem cap_one {cp cq phi : Nat → Int} {v c : Int} {k : Nat} (h : cMax cp v) (hf : cFlow cq phi) (hk : k < 1994) (h1 : ∀ l, l < 1994 → l ≠ k → cq l ≤ cp l) (h2 : cq k ≤ cp k + c) (hc : 0 ≤ c) : bal 1994 cU cV phi 1 ≤ v + c := by
  obtain ⟨psi, R, p1, r0, r1, q1, q2, e⟩ := h
  have d := flow_diff (N := 324) (m := 1994) (u := cU) (v := cV) (s := 0) (t := 1) (fun n => if R n = true then (0 : Int) else 1) (fun i hi => cU_lt hi) (fun i hi => cV_lt hi) (by decide) (by decide) (by decide) p1.2 hf.2
  rw [r0, r1, if_neg (by decide), if_pos rfl] at d
  have le := sm_le (n := 1994) (f := fun i => ((if R (cV i) = true then (0 : Int) else 1) - (if R (cU i) = true then 0 else 1)) * (phi i - psi i)) (g := fun i => if i = k then c else 0) (fun i hi => by
    have a := p1.1 i hi
    have b := hf.1 i hi
    have g0 : 0 ≤ (if i = k then c else 0) := by split <;> omega
    by_cases u : R (cU i) = true
    · by_cases w : R (cV i) = true
      · rw [if_pos u, if_pos w, Int.sub_self, Int.zero_mul]
        exact g0
      · rw [if_pos u, if_neg w, Int.sub_zero, Int.one_mul]
        have : ¬ psi i < cp i := fun z => w (q1 i hi z u)
        by_cases ek : i = k
        · rw [if_pos ek]
          rw [ek] at a b this ⊢
          omega
        · rw [if_neg ek]
          have := h1 i hi ek
          omega
    · by_cases w : R (cV i) = true
      · rw [if_neg u, if_pos w]
        have : ¬ 0 < psi i := fun z => u (q2 i hi z w)
        rw [show (0 : Int) - 1 = -1 by decide, Int.neg_mul, Int.one_mul]
        omega
      · rw [if_neg u, if_neg w, Int.sub_self, Int.zero_mul]
        exact g0)
  rw [sm_one c hk, d] at le
  omega
theorem men_sum {P d : Nat} {F men col : Nat → Int} {l : List stT} {bk bd kp so : Int} (hd : d < 10) : sm 10 (fun u => capL P (d : Int) F men col l bk bd kp so (8 + u)) = sm (d + 1) men := by
  rw [sm_congr (n := 10) (g := fun u => MJ (d : Int) men u) (fun u hu => by
    unfold capL capJ cC
    rw [if_neg (by omega), if_pos (by omega), show 8 + u - 8 = u by omega])]
  rw [show (10 : Nat) = (d + 1) + (10 - (d + 1)) by omega, sm_split, sm_zero' (n := 10 - (d + 1)) (fun i hi => by unfold MJ; exact if_neg (by omega)), Int.add_zero]
  exact sm_congr (fun i hi => by unfold MJ; exact if_pos (by omega))
theorem lk_mono {sh : oS} (hs : Sh sh) {P D : Nat} {F men S : Nat → Int} {way bk bd kp : Int} {l : List stT} (hP : 1 ≤ P ∧ P ≤ 8) (hD : D ≤ 10) (hbk : 0 ≤ bk ∧ bk ≤ 1000) (hbd : 0 ≤ bd ∧ bd ≤ 1000) (hkp : 0 ≤ kp ∧ kp ≤ 1000) (hF : ∀ p, p < P → 0 ≤ F p ∧ F p ≤ 100000) (hS : ∀ d, d < D → -1 ≤ S d ∧ S d ≤ 2) (hM : ∀ d, d < D → 0 ≤ men d ∧ men d ≤ 99) (hn : l.length ≤ 40) (ho : stOK P D l) : (∀ d, d < D → 0 ≤ lkC P F men (colP P S way) l bk bd kp d) ∧ ∀ d, d + 1 < D → lkC P F men (colP P S way) l bk bd kp (d + 1) = 0 → lkC P F men (colP P S way) l bk bd kp d = 0 := by
  have ex : ∀ d : Nat, d < D → ∃ v c, cBest (capL P (d : Int) F men (colP P S way) l bk bd kp 0) (cW (colP P S way)) v c := fun d hd => best_ex hs hP hD hbk hbd hkp hF hS hM hn ho (by omega) (by decide)
  have nn : ∀ d, d < D → 0 ≤ lkC P F men (colP P S way) l bk bd kp d := fun d hd => by
    obtain ⟨v, c, h⟩ := ex d hd
    have := (cBest_men h).2
    rw [men_sum (by omega)] at this
    unfold lkC
    rw [mV_is h.max]
    omega
  refine ⟨nn, fun d hd hz => ?_⟩
  obtain ⟨v, c, h⟩ := ex d (by omega)
  obtain ⟨v1, c1, g⟩ := ex (d + 1) hd
  have hv := nn d (by omega)
  unfold lkC at hz hv ⊢
  rw [mV_is h.max] at hv ⊢
  rw [mV_is g.max] at hz
  obtain ⟨v2, c2, w2⟩ := best_ex hs (P := P) (D := D) (F := F) (men := fun u => if u ≤ d then men u else 0) (S := S) (way := way) (last := ((d + 1 : Nat) : Int)) (so := 0) (bk := bk) (bd := bd) (kp := kp) (l := l) hP hD hbk hbd hkp hF hS (fun u hu => by
    have := hM u hu
    split <;> omega) hn ho (by omega) (by decide)
  have ec : capL P ((d + 1 : Nat) : Int) F (fun u => if u ≤ d then men u else 0) (colP P S way) l bk bd kp 0 = cDy d (capL P ((d + 1 : Nat) : Int) F men (colP P S way) l bk bd kp 0) := by
    funext a
    unfold cDy
    by_cases z : 8 ≤ a ∧ a < 18 ∧ d < a - 8
    · rw [if_pos z]
      unfold capL capJ cC
      rw [if_neg (by omega), if_pos (by omega)]
      unfold MJ
      dsimp only
      rw [if_neg (show ¬ a - 8 ≤ d by omega)]
      split <;> rfl
    · rw [if_neg z]
      unfold capL capJ cC
      by_cases y : a < 8
      · rw [if_pos y, if_pos y]
      · rw [if_neg y, if_neg y]
        by_cases x : a < 18
        · rw [if_pos x, if_pos x]
          unfold MJ
          dsimp only
          rw [if_pos (show a - 8 ≤ d by omega)]
        · rw [if_neg x, if_neg x]
  rw [ec] at w2
  have m2 := w2.max
  have m3 : cMax (capL P (d : Int) F men (colP P S way) l bk bd kp 0) v2 := by
    have e : ((d + 1 : Nat) : Int) = ((d + 2 : Nat) : Int) - 1 := by omega
    rw [e] at m2
    exact max_day (D := d + 2) (by omega) hbk.1 (fun u hu => (hM u (by omega)).1) (fun p hp => (hF p (by omega)).1) m2
  have e2 := h.max.un m3
  obtain ⟨phi, R, f, -, -, -, -, e3⟩ := g.max
  have mb := hM (d + 1) hd
  have le := cap_one (cp := cDy d (capL P ((d + 1 : Nat) : Int) F men (colP P S way) l bk bd kp 0)) (cq := capL P ((d + 1 : Nat) : Int) F men (colP P S way) l bk bd kp 0) (c := men (d + 1)) (k := 8 + (d + 1)) w2.max f (by omega) (fun a ha hk => by
    unfold cDy
    by_cases z : 8 ≤ a ∧ a < 18 ∧ d < a - 8
    · rw [if_pos z]
      unfold capL capJ cC
      rw [if_neg (by omega), if_pos (by omega)]
      unfold MJ
      rw [if_neg (by omega)]
      exact Int.le_refl _
    · rw [if_neg z]
      exact Int.le_refl _) (by
    unfold cDy
    rw [if_pos (by omega)]
    unfold capL capJ cC
    rw [if_neg (by omega), if_pos (by omega)]
    unfold MJ
    rw [show 8 + (d + 1) - 8 = d + 1 by omega, if_pos (Int.le_refl _)]
    omega) mb.1
  have s2 : sm (d + 1 + 1) men = sm (d + 1) men + men (d + 1) := rfl
  omega
/-- what the class finds as the first day of lack -/
theorem lkR_F {f : Nat → Int} {b r : Int} : ∀ (q d : Nat), ((∃ x : Nat, d ≤ x ∧ x < d + q ∧ r = (x : Int) ∧ b < f x ∧ ∀ y, d ≤ y → y < x → f y ≤ b) ∨ (r = -1 ∧ ∀ x, d ≤ x → x < d + q → f x ≤ b)) → r = lkF b f q d
  | 0, d, h => by
    rcases h with ⟨x, h1, h2, -⟩ | ⟨h, -⟩
    · omega
    · exact h
  | q + 1, d, h => by
    unfold lkF
    rcases h with ⟨x, h1, h2, h3, h4, h5⟩ | ⟨h, h2⟩
    · by_cases z : x = d
      · rw [z] at h4 h3
        rw [if_neg (by omega)]
        exact h3
      · rw [if_pos (h5 d (by omega) (by omega))]
        exact lkR_F q (d + 1) (Or.inl ⟨x, by omega, by omega, h3, h4, fun y y1 y2 => h5 y (by omega) y2⟩)
    · rw [if_pos (h2 d (by omega) (by omega))]
      exact lkR_F q (d + 1) (Or.inr ⟨h, fun x x1 x2 => h2 x (by omega) (by omega)⟩)
theorem lkR.F {f : Nat → Int} {b r : Int} {D : Nat} (h : lkR f D b r) : r = lkF b f D 0 := by
  apply lkR_F
  rcases h with ⟨d, h1, h2, h3, h4⟩ | ⟨h, h2⟩
  · exact Or.inl ⟨d, by omega, by omega, h2, h3, fun y _ hy => h4 y hy⟩
  · exact Or.inr ⟨h, fun x _ hx => h2 x (by omega)⟩
theorem lkR.cg {f g : Nat → Int} {b r : Int} {D : Nat} (h : lkR f D b r) (e : ∀ d, d < D → f d = g d) : lkR g D b r := by
  rcases h with ⟨d, h1, h2, h3, h4⟩ | ⟨h, h2⟩
  · exact Or.inl ⟨d, h1, h2, by rw [← e d h1]; exact h3, fun y hy => by rw [← e y (by omega)]; exact h4 y hy⟩
  · exact Or.inr ⟨h, fun x hx => by rw [← e x hx]; exact h2 x hx⟩
theorem frF_is {f : Nat → Int} {x : Nat} : ∀ n : Nat, x ≤ n → (∀ d, d < x → f d = 0) → (∀ d, x ≤ d → d < n → f d ≠ 0) → frF f n = (x : Int)
  | 0, h, _, _ => by
    have : x = 0 := by omega
    rw [this]
    rfl
  | n + 1, h, h1, h2 => by
    unfold frF
    by_cases z : x = n + 1
    · rw [if_pos (h1 n (by omega)), z]
      omega
    · rw [if_neg (h2 n (by omega) (by omega))]
      exact frF_is n (by omega) h1 (fun d d1 d2 => h2 d d1 (by omega))
/-- the class's and the reference's hungry up to a day -/
theorem lk_is {sh : oS} (hs : Sh sh) {J R : Nat → Nat → Int} {hl hf hw h m p : Nat} {more way : Int} (ok : mOK R) (lm : lMat J R hl hf hw) (mm : mMat J R h m) (h0 : R 44 0 ≠ 0) (hm : (m : Int) < R 44 8) (hp : (p : Int) < R 44 14) (hmo : 0 ≤ more ∧ more ≤ 1) {d : Nat} (hd : d < (R 47 m).toNat) : lkC (R 44 0).toNat (J hf) (J (h + 1)) (colP ((R 44 0).toNat : Int) (J (h + 2)) way) (pRaw R m p more) (J hl 3) (J hl 4) (J hl 5) d = (pEv R m p more way (d : Int) 0).1 := by
  obtain ⟨hL, eP⟩ := lm.has ok h0
  obtain ⟨hM, D1, eD⟩ := mm.has ok hm
  have rok := ok.raw (more := more) (p := p) (m := m) hp hm h0 hmo
  have q := ev_is (more := more) (p := p) (way := way) (so := 0) (last := (d : Int)) ok lm mm h0 hm (by omega)
  obtain ⟨l1, l2, l3, l4, l5, l6, l7⟩ := hL
  obtain ⟨m1, m2, m3, m4, m5⟩ := hM
  obtain ⟨v, c, e⟩ := best_ex hs (P := (R 44 0).toNat) (D := (R 47 m).toNat) (F := J hf) (men := J (h + 1)) (S := J (h + 2)) (way := way) (last := (d : Int)) (so := 0) (bk := J hl 3) (bd := J hl 4) (kp := J hl 5) (l := pRaw R m p more) l2 m2 (by omega) (by omega) (by omega) (fun x hx => by have := l6 x hx; omega) m3 m4 rok.2 (by rw [eP, eD]; exact rok.1) (by omega) (by decide)
  rw [← q]
  unfold lkC evL
  rw [bV_mV e]
  rfl
