/-! the net of a land, of stands, of a march -/
def rJ (P last : Int) (n : Nat) (pl fr to : Nat → Int) (bk bd so : Int) (j : Nat) : Int := if ((j / 19 : Nat) : Int) < P ∧ ((j % 19 : Nat) : Int) - 9 ≤ last then bkc n pl fr to ((j / 19 : Nat) : Int) (((j % 19 : Nat) : Int) - 9) bd so * bk else 0
def twJ (so : Int) (j : Nat) : Bool := decide (0 < j / 19 ∧ ((j / 19 : Nat) : Int) - so ≤ ((j % 19 : Nat) : Int) - 9)
def eaJ (last kp : Int) (col : Nat → Int) (j u : Nat) : Bool := decide ((u : Int) ≤ last ∧ fAbs (col u - ((j / 19 : Nat) : Int)) ≤ (u : Int) - (((j % 19 : Nat) : Int) - 9) ∧ (u : Int) - (((j % 19 : Nat) : Int) - 9) ≤ kp)
def FJ (P : Int) (f : Nat → Int) (p : Nat) : Int := if (p : Int) < P then f p else 0
def MJ (last : Int) (men : Nat → Int) (u : Nat) : Int := if (u : Int) ≤ last then men u else 0
def rk (r : Nat → Int) : Nat → Nat
  | 0 => 0
  | j + 1 => rk r j + (if 0 < r j then 1 else 0)
theorem rk_le (r : Nat → Int) : ∀ j, rk r j ≤ j
  | 0 => Nat.le_refl 0
  | j + 1 => by
    have := rk_le r j
    simp only [rk]
    split <;> omega
theorem rk_mono (r : Nat → Int) {i j : Nat} (h : i ≤ j) : rk r i ≤ rk r j := by
  induction j with
  | zero => rw [show i = 0 by omega]; exact Nat.le_refl _
  | succ j ih =>
    rcases Nat.lt_or_ge i (j + 1) with q | q
    · have := ih (by omega)
      simp only [rk]
      split <;> omega
    · rw [show i = j + 1 by omega]; exact Nat.le_refl _
theorem rk_inj (r : Nat → Int) {i j : Nat} (hi : 0 < r i) (hj : 0 < r j) (e : rk r i = rk r j) : i = j := by
  rcases Nat.lt_trichotomy i j with q | q | q
  · have h1 := rk_mono r (show i + 1 ≤ j by omega)
    simp only [rk, if_pos hi] at h1
    omega
  · exact q
  · have h1 := rk_mono r (show j + 1 ≤ i by omega)
    simp only [rk, if_pos hj] at h1
    omega
/-- the reference's numbers of the nodes -/
def nuM (r : Nat → Int) (n : Nat) : Nat := if n = 0 then 0 else if n = 1 then 19 else if n < 20 then n - 1 else 20 + 2 * rk r ((n - 20) / 2) + (n - 20) % 2
def prN (r : Nat → Int) (n : Nat) : Prop := n < 20 ∨ (n < 324 ∧ 0 < r ((n - 20) / 2))
theorem nuM_inj (r : Nat → Int) : ∀ a b, prN r a → prN r b → nuM r a = nuM r b → a = b := by
  have key : ∀ a b, 20 ≤ a → 20 ≤ b → 0 < r ((a - 20) / 2) → 0 < r ((b - 20) / 2) → nuM r a = nuM r b → a = b := by
    intro a b ha hb h1 h2 e
    unfold nuM at e
    rw [if_neg (by omega), if_neg (by omega), if_neg (by omega), if_neg (by omega), if_neg (by omega), if_neg (by omega)] at e
    have := rk_inj r h1 h2 (by omega)
    omega
  have big : ∀ a, 20 ≤ a → 20 ≤ nuM r a := by
    intro a ha
    unfold nuM
    rw [if_neg (by omega), if_neg (by omega), if_neg (by omega)]
    omega
  have small : ∀ a, a < 20 → nuM r a < 20 := by
    intro a ha
    unfold nuM
    split
    · omega
    · split
      · omega
      · first | omega | (rw [if_pos ha]; omega)
  intro a b ha hb e
  rcases Nat.lt_or_ge a 20 with qa | qa <;> rcases Nat.lt_or_ge b 20 with qb | qb
  · unfold nuM at e
    simp only [if_pos qa, if_pos qb] at e
    repeat' split at e
    all_goals omega
  · have := small a qa
    have := big b qb
    omega
  · have := small b qb
    have := big a qa
    omega
  · rcases ha with ha | ha
    · omega
    · rcases hb with hb | hb
      · omega
      · exact key a b qa qb ha.2 hb.2 e
theorem nuM_lt (r : Nat → Int) : ∀ a, prN r a → nuM r a < 340 := by
  intro a ha
  have := rk_le r ((a - 20) / 2)
  unfold nuM
  rcases ha with ha | ha
  · repeat' split
    all_goals omega
  · repeat' split
    all_goals omega
def jOf (l : Nat) : Nat := if l < 170 then l - 18 else if l < 322 then l - 170 else if l < 474 then l - 322 else (l - 474) / 10
/-- an oven's label that is there -/
def ovp (r : Nat → Int) (tw : Nat → Bool) (ea : Nat → Nat → Bool) (l : Nat) : Prop := 18 ≤ l ∧ l < 1994 ∧ 0 < r (jOf l) ∧ (322 ≤ l → l < 474 → tw (jOf l) = true) ∧ (474 ≤ l → ea (jOf l) ((l - 474) % 10) = true)
def Sov (P last : Int) (r : Nat → Int) (tw : Nat → Bool) (ea : Nat → Nat → Bool) (j : Nat) (l : Nat) : Prop := (l < 8 ∧ (l : Int) < P) ∨ (8 ≤ l ∧ l < 18 ∧ ((l - 8 : Nat) : Int) ≤ last) ∨ (ovp r tw ea l ∧ jOf l < j)
theorem mLab.cg {I : Nat → Nat → Int} {m : Nat} {lab nu : Nat → Nat} {w cp : Nat → Int} {S S' : Nat → Prop} (h : mLab I m lab nu w cp S) (e : ∀ x, S x ↔ S' x) : mLab I m lab nu w cp S' := by
  have : S = S' := funext fun x => propext (e x)
  rw [← this]
  exact h
/-- the set behind an oven: its labels one by one -/
theorem Sov_next {P last : Int} {r : Nat → Int} {tw : Nat → Bool} {ea : Nat → Nat → Bool} {j : Nat} (hj : j < 152) (hr : 0 < r j) (l : Nat) : Sov P last r tw ea (j + 1) l ↔ (((Sov P last r tw ea j l ∨ l = 18 + j) ∨ l = 170 + j) ∨ (tw j = true ∧ l = 322 + j)) ∨ ∃ x, x < 10 ∧ ea j x = true ∧ l = 474 + 10 * j + x := by
  constructor
  · intro h
    rcases h with h | h | ⟨h1, h2⟩
    · exact Or.inl (Or.inl (Or.inl (Or.inl (Or.inl h))))
    · exact Or.inl (Or.inl (Or.inl (Or.inl (Or.inr (Or.inl h)))))
    · rcases Nat.lt_or_ge (jOf l) j with q | q
      · exact Or.inl (Or.inl (Or.inl (Or.inl (Or.inr (Or.inr ⟨h1, q⟩)))))
      · have e : jOf l = j := by omega
        obtain ⟨a1, a2, a3, a4, a5⟩ := h1
        rw [e] at a4 a5
        unfold jOf at e
        by_cases z1 : l < 170
        · rw [if_pos z1] at e
          exact Or.inl (Or.inl (Or.inl (Or.inr (by omega))))
        · rw [if_neg z1] at e
          by_cases z2 : l < 322
          · rw [if_pos z2] at e
            exact Or.inl (Or.inl (Or.inr (by omega)))
          · rw [if_neg z2] at e
            by_cases z3 : l < 474
            · rw [if_pos z3] at e
              exact Or.inl (Or.inr ⟨a4 (by omega) z3, by omega⟩)
            · rw [if_neg z3] at e
              exact Or.inr ⟨(l - 474) % 10, by omega, a5 (by omega), by omega⟩
  · intro h
    rcases h with (((h | h) | h) | ⟨ht, h⟩) | ⟨x, hx, he, h⟩
    · rcases h with h | h | ⟨h1, h2⟩
      · exact Or.inl h
      · exact Or.inr (Or.inl h)
      · exact Or.inr (Or.inr ⟨h1, by omega⟩)
    · have e : jOf l = j := by unfold jOf; rw [if_pos (by omega)]; omega
      exact Or.inr (Or.inr ⟨⟨by omega, by omega, by rw [e]; exact hr, fun _ _ => by omega, fun _ => by omega⟩, by omega⟩)
    · have e : jOf l = j := by unfold jOf; rw [if_neg (by omega), if_pos (by omega)]; omega
      exact Or.inr (Or.inr ⟨⟨by omega, by omega, by rw [e]; exact hr, fun _ _ => by omega, fun _ => by omega⟩, by omega⟩)
    · have e : jOf l = j := by unfold jOf; rw [if_neg (by omega), if_neg (by omega), if_pos (by omega)]; omega
      exact Or.inr (Or.inr ⟨⟨by omega, by omega, by rw [e]; exact hr, fun _ _ => by rw [e]; exact ht, fun _ => by omega⟩, by omega⟩)
    · have e : jOf l = j := by unfold jOf; rw [if_neg (by omega), if_neg (by omega), if_neg (by omega)]; omega
      exact Or.inr (Or.inr ⟨⟨by omega, by omega, by rw [e]; exact hr, fun _ _ => by omega, fun _ => by rw [e, show (l - 474) % 10 = x by omega]; exact he⟩, by omega⟩)
theorem Sov_skip {P last : Int} {r : Nat → Int} {tw : Nat → Bool} {ea : Nat → Nat → Bool} {j : Nat} (hr : ¬ 0 < r j) (l : Nat) : Sov P last r tw ea (j + 1) l ↔ Sov P last r tw ea j l := by
  constructor
  · intro h
    rcases h with h | h | ⟨h1, h2⟩
    · exact Or.inl h
    · exact Or.inr (Or.inl h)
    · refine Or.inr (Or.inr ⟨h1, ?_⟩)
      rcases Nat.lt_or_ge (jOf l) j with q | q
      · exact q
      · rw [show j = jOf l by omega] at hr
        exact absurd h1.2.2.1 hr
  · intro h
    rcases h with h | h | ⟨h1, h2⟩
    · exact Or.inl h
    · exact Or.inr (Or.inl h)
    · exact Or.inr (Or.inr ⟨h1, by omega⟩)
/-- the reference's rooms: far more than ever flows for all but the bounds -/
def mCP (c : Nat → Int) (l : Nat) : Int := if l < 170 then c l else 268435456
theorem nu_in (r : Nat → Int) (j : Nat) : nuM r (20 + 2 * j) = 20 + 2 * rk r j ∧ nuM r (21 + 2 * j) = 21 + 2 * rk r j := by
  unfold nuM
  rw [if_neg (by omega), if_neg (by omega), if_neg (by omega), if_neg (by omega), if_neg (by omega), if_neg (by omega), show (20 + 2 * j - 20) / 2 = j by omega, show (21 + 2 * j - 20) / 2 = j by omega]
  omega
theorem nu_pl (r : Nat → Int) {p : Nat} (h : p < 8) : nuM r (2 + p) = 1 + p := by
  unfold nuM
  rw [if_neg (by omega), if_neg (by omega), if_pos (by omega)]; omega
theorem nu_dy (r : Nat → Int) {u : Nat} (h : u < 10) : nuM r (10 + u) = 9 + u := by
  unfold nuM
  rw [if_neg (by omega), if_neg (by omega), if_pos (by omega)]; omega
theorem c_fl {p : Nat} (h : p < 8) : cU p = 0 ∧ cV p = 2 + p := by
  unfold cU cV
  rw [if_pos h, if_pos h]
  exact ⟨rfl, rfl⟩
theorem c_da {u : Nat} (h : u < 10) : cU (8 + u) = 10 + u ∧ cV (8 + u) = 1 := by
  unfold cU cV
  rw [if_neg (by omega), if_pos (by omega), if_neg (by omega), if_pos (by omega)]
  omega
theorem c_in {j : Nat} (h : j < 152) : cU (18 + j) = 20 + 2 * j ∧ cV (18 + j) = 21 + 2 * j := by
  unfold cU cV
  rw [if_neg (by omega), if_neg (by omega), if_pos (by omega), if_neg (by omega), if_neg (by omega), if_pos (by omega)]
  omega
theorem c_lo {j : Nat} (h : j < 152) : cU (170 + j) = 2 + j / 19 ∧ cV (170 + j) = 20 + 2 * j := by
  unfold cU cV
  rw [if_neg (by omega), if_neg (by omega), if_neg (by omega), if_pos (by omega), if_neg (by omega), if_neg (by omega), if_neg (by omega), if_pos (by omega), show 170 + j - 170 = j by omega]
  omega
theorem c_to {j : Nat} (h : j < 152) : cU (322 + j) = 2 ∧ cV (322 + j) = 20 + 2 * j := by
  unfold cU cV
  rw [if_neg (by omega), if_neg (by omega), if_neg (by omega), if_neg (by omega), if_pos (by omega), if_neg (by omega), if_neg (by omega), if_neg (by omega), if_neg (by omega), if_pos (by omega)]
  omega
theorem c_br {j u : Nat} (h : j < 152) (hu : u < 10) : cU (474 + 10 * j + u) = 21 + 2 * j ∧ cV (474 + 10 * j + u) = 10 + u := by
  unfold cU cV
  rw [if_neg (by omega), if_neg (by omega), if_neg (by omega), if_neg (by omega), if_neg (by omega), if_neg (by omega), if_neg (by omega), if_neg (by omega), if_neg (by omega), if_neg (by omega)]
  omega
theorem cW_z (col : Nat → Int) {l : Nat} (h : l < 322) : cW col l = 0 := by unfold cW; rw [if_pos h]
theorem cW_to (col : Nat → Int) {j : Nat} (h : j < 152) : cW col (322 + j) = ((j / 19 : Nat) : Int) := by
  unfold cW
  rw [if_neg (by omega), if_pos (by omega), show 322 + j - 322 = j by omega]
theorem cW_br (col : Nat → Int) {j u : Nat} (h : j < 152) (hu : u < 10) : cW col (474 + 10 * j + u) = fAbs (col u - ((j / 19 : Nat) : Int)) := by
  unfold cW
  rw [if_neg (by omega), if_neg (by omega), show (474 + 10 * j + u - 474) % 10 = u by omega, show (474 + 10 * j + u - 474) / 10 = j by omega]
theorem Sov_lt {P last : Int} {r : Nat → Int} {tw : Nat → Bool} {ea : Nat → Nat → Bool} {j l : Nat} (h : Sov P last r tw ea j l) (hl : 18 ≤ l) : jOf l < j := by
  rcases h with h | h | h
  · omega
  · omega
  · exact h.2
set_option maxRecDepth 4000 in
set_option maxHeartbeats 1000000 in
theorem s_layOven {sh : oS} {I : Nat → Nat → Int} {L : Nat → Nat → Int64} {Q : oQ} (hs : Sh sh) {m : Nat} {lab : Nat → Nat} {P last so : Int} {r c : Nat → Int} {col : Nat → Int} {p t : Nat} (hp : p < 8) (ht : t < 19) (hso : 0 ≤ so ∧ so ≤ 9) (hla : 0 ≤ last ∧ last ≤ 9) (hkp : 0 ≤ I 44 5 ∧ I 44 5 ≤ 1000) (hcol : ∀ u : Nat, (u : Int) ≤ last → I 67 u = col u ∧ 0 ≤ col u ∧ col u ≤ 7) (hr : 0 < r (19 * p + t)) (hc : c (18 + (19 * p + t)) = r (19 * p + t)) (h0 : p = 0 → -so ≤ (t : Int) - 9)
    (h : mLab I m lab (nuM r) (cW col) (mCP c) (Sov P last r (twJ so) (eaJ last (I 44 5) col) (19 * p + t))) (k : ∀ J m' lab', Fr [71, 72, 73, 74] [(44, 47)] I J → mLab J m' lab' (nuM r) (cW col) (mCP c) (Sov P last r (twJ so) (eaJ last (I 44 5) col) (19 * p + t + 1)) → Q none (sh, J, L)) : T_X12_layOven [vR 44, vI (p : Int), vI ((t : Int) - 9), vI (r (19 * p + t)), vI (20 + 2 * (rk r (19 * p + t) : Int)), vI last, vI so] (sh, I, L) Q := by
  refine And.intro (Nat.le_of_ble_eq_true rfl) (fun K hK => ?_)
  have d1 : (19 * p + t) / 19 = p := by omega
  have d2 : (19 * p + t) % 19 = t := by omega
  generalize hj : 19 * p + t = j at *
  have hj2 : j < 152 := by omega
  have hrk := rk_le r j
  have n1 := nu_in r j
  have notS : ∀ l, 18 ≤ l → jOf l = j → ¬ Sov P last r (twJ so) (eaJ last (I 44 5) col) j l := fun l h1 h2 h3 => by
    have := Sov_lt h3 h1
    omega
  have jo1 : jOf (18 + j) = j := by unfold jOf; rw [if_pos (by omega)]; omega
  have jo2 : jOf (170 + j) = j := by unfold jOf; rw [if_neg (by omega), if_pos (by omega)]; omega
  have jo3 : jOf (322 + j) = j := by unfold jOf; rw [if_neg (by omega), if_neg (by omega), if_pos (by omega)]; omega
  have jo4 : ∀ u, u < 10 → jOf (474 + 10 * j + u) = j := fun u hu => by unfold jOf; rw [if_neg (by omega), if_neg (by omega), if_neg (by omega)]; omega
  refine B_X12_layOven_0 hK hs (k := ?_)
  refine s_medge hs h (18 + j) (by omega) (notS _ (by omega) jo1) (by rw [(c_in hj2).1, n1.1]; omega) (by rw [(c_in hj2).2, n1.2]; omega) (by unfold mCP; rw [if_pos (by omega), hc]) (by rw [cW_z _ (by omega)]) (fun x => Iff.rfl) (fun J1 F1 L1 => ?_)
  -- the bread
  have bread : ∀ (q u : Nat) (J : Nat → Nat → Int) (m' : Nat) (lab' : Nat → Nat), (u : Int) + q = last + 1 → Fr [71, 72, 73, 74] [(44, 47)] I J → mLab J m' lab' (nuM r) (cW col) (mCP c) (fun l => (((Sov P last r (twJ so) (eaJ last (I 44 5) col) j l ∨ l = 18 + j) ∨ l = 170 + j) ∨ (twJ so j = true ∧ l = 322 + j)) ∨ ∃ x, x < u ∧ eaJ last (I 44 5) col j x = true ∧ l = 474 + 10 * j + x) → K 51 [some (vR 44), some (vI (p : Int)), some (vI ((t : Int) - 9)), none, some (vI (20 + 2 * (rk r j : Int))), some (vI last), none, some (vI (u : Int)), none] [] (sh, J, L) (0, 0) := by
    intro q
    induction q with
    | zero =>
      intro u J m' lab' hu hF hJ
      refine B_X12_layOven_51 hK (n55a := by omega) (n55b := by omega) (kt := fun _ => ?_) (kf := fun z => absurd (by omega) z)
      refine B_X12_layOven_116 hK (k := ?_)
      refine k J m' lab' hF (hJ.cg (fun x => ?_))
      rw [Sov_next hj2 hr]
      refine or_congr Iff.rfl ?_
      constructor
      · rintro ⟨y, y1, y2, y3⟩
        exact ⟨y, by omega, y2, y3⟩
      · rintro ⟨y, y1, y2, y3⟩
        have y2' := y2
        simp only [eaJ, decide_eq_true_eq] at y2'
        exact ⟨y, by omega, y2, y3⟩
    | succ q ih =>
      intro u J m' lab' hu hF hJ
      have hu2 : u < 10 := by omega
      obtain ⟨e1, e2, e3⟩ := hcol u (by omega)
      have t67 : J 67 ((u : Int).toNat) = col u := by rw [Int.toNat_natCast, hF 67 u (by decide) (by simp)]; exact e1
      have t5 : J 44 5 = I 44 5 := hF 44 5 (by decide) (by decide)
      refine B_X12_layOven_51 hK (n55a := by omega) (n55b := by omega) (kt := fun z => absurd z (by omega)) (kf := fun _ => ?_)
      refine B_X12_layOven_58 hK hs (b65 := by omega) (k := ?_)
      rw [t67]
      refine s_size (by omega) (fun r0 hr0 => ?_)
      have hab : r0 = fAbs (col u - (p : Int)) := by
        rw [hr0]; unfold fAbs
        split <;> split <;> omega
      have hrb : 0 ≤ r0 ∧ r0 ≤ 7 := by rw [hr0]; split <;> omega
      have no : eaJ last (I 44 5) col j u = false → K 110 [some (vR 44), some (vI (p : Int)), some (vI ((t : Int) - 9)), none, some (vI (20 + 2 * (rk r j : Int))), some (vI last), none, some (vI (u : Int)), none] [] (sh, J, L) (0, 0) := by
        intro hf
        refine B_X12_layOven_110 hK (k := ?_)
        refine ih (u + 1) J m' lab' (by omega) hF (hJ.cg (fun x => or_congr Iff.rfl ?_))
        constructor
        · rintro ⟨y, y1, y2, y3⟩
          exact ⟨y, by omega, y2, y3⟩
        · rintro ⟨y, y1, y2, y3⟩
          refine ⟨y, ?_, y2, y3⟩
          rcases Nat.lt_or_ge y u with z | z
          · exact z
          · rw [show y = u by omega, hf] at y2
            cases y2
      refine B_X12_layOven_70 hK (n78a := by omega) (n78b := by omega) (kt := fun h70 => ?_) (kf := fun h70 => ?_)
      · refine no ?_
        simp only [eaJ, d1, d2, decide_eq_false_iff_not]
        rw [← hab]; omega
      refine B_X12_layOven_81 hK hs (n89a := by omega) (n89b := by omega) (kt := fun h81 => ?_) (kf := fun h81 => ?_)
      · refine no ?_
        simp only [eaJ, d1, d2, decide_eq_false_iff_not]
        rw [← hab]; omega
      have hea : eaJ last (I 44 5) col j u = true := by
        simp only [eaJ, d1, d2, decide_eq_true_eq]
        rw [← hab]; omega
      refine B_X12_layOven_92 hK hs (k := ?_)
      refine s_medge hs hJ (474 + 10 * j + u) (by omega) ?_ (by rw [(c_br hj2 hu2).1, n1.2]; omega) (by rw [(c_br hj2 hu2).2, nu_dy r hu2]; omega) (by unfold mCP; rw [if_neg (by omega)]) (by rw [cW_br _ hj2 hu2, d1]; exact hab) (fun x => Iff.rfl) (fun J2 F2 L2 => ?_)
      · rintro ((((z | z) | z) | z) | ⟨y, y1, y2, y3⟩)
        · exact notS _ (by omega) (jo4 u hu2) z
        · omega
        · omega
        · omega
        · omega
      · refine B_X12_layOven_110 hK (k := ?_)
        refine ih (u + 1) J2 _ _ (by omega) (hF.tr F2 (by decide) (by decide) (by decide) (by decide)) (L2.cg (fun x => ?_))
        constructor
        · rintro ((z | ⟨y, y1, y2, y3⟩) | z)
          · exact Or.inl z
          · exact Or.inr ⟨y, by omega, y2, y3⟩
          · exact Or.inr ⟨u, by omega, hea, z⟩
        · rintro (z | ⟨y, y1, y2, y3⟩)
          · exact Or.inl (Or.inl z)
          · rcases Nat.lt_or_ge y u with q | q
            · exact Or.inl (Or.inr ⟨y, q, y2, y3⟩)
            · rw [show y = u by omega] at y3
              exact Or.inr y3
  have bread0 : ∀ (J : Nat → Nat → Int) (m' : Nat) (lab' : Nat → Nat), Fr [71, 72, 73, 74] [(44, 47)] I J → mLab J m' lab' (nuM r) (cW col) (mCP c) (fun l => ((Sov P last r (twJ so) (eaJ last (I 44 5) col) j l ∨ l = 18 + j) ∨ l = 170 + j) ∨ (twJ so j = true ∧ l = 322 + j)) → K 48 [some (vR 44), some (vI (p : Int)), some (vI ((t : Int) - 9)), none, some (vI (20 + 2 * (rk r j : Int))), some (vI last), none, none, none] [] (sh, J, L) (0, 0) := by
    intro J m' lab' hF hJ
    refine B_X12_layOven_48 hK (k := ?_)
    refine bread (last + 1).toNat 0 J m' lab' (by omega) hF (hJ.cg (fun x => ?_))
    constructor
    · intro z; exact Or.inl z
    · rintro (z | ⟨y, y1, -⟩)
      · exact z
      · omega
  by_cases hp0 : p = 0
  · have htw : twJ so j = false := by simp only [twJ, d1, decide_eq_false_iff_not]; omega
    have := h0 hp0
    refine B_X12_layOven_12 hK (n13 := by omega) (kt := fun _ => ?_) (kf := fun z => absurd (by omega) z)
    refine B_X12_layOven_29 hK (n34a := by omega) (n34b := by omega) (kt := fun z => absurd z (by omega)) (kf := fun _ => ?_)
    refine B_X12_layOven_37 hK hs (k := ?_)
    refine s_medge hs L1 (170 + j) (by omega) ?_ (by rw [(c_lo hj2).1, d1, hp0, nu_pl r (by decide)]; rfl) (by rw [(c_lo hj2).2, n1.1]; omega) (by unfold mCP; rw [if_neg (by omega)]) (by rw [cW_z _ (by omega)]; omega) (fun x => Iff.rfl) (fun J2 F2 L2 => ?_)
    · rintro (z | z)
      · exact notS _ (by omega) jo2 z
      · omega
    · refine bread0 J2 _ _ (F1.tr F2 (by decide) (by decide) (by decide) (by decide)) (L2.cg (fun x => ?_))
      rw [htw]
      simp
  · refine B_X12_layOven_12 hK (n13 := by omega) (kt := fun z => absurd z (by omega)) (kf := fun _ => ?_)
    refine B_X12_layOven_16 hK hs (k := ?_)
    refine s_medge hs L1 (170 + j) (by omega) ?_ (by rw [(c_lo hj2).1, d1, nu_pl r hp]; omega) (by rw [(c_lo hj2).2, n1.1]; omega) (by unfold mCP; rw [if_neg (by omega)]) (by rw [cW_z _ (by omega)]) (fun x => Iff.rfl) (fun J2 F2 L2 => ?_)
    · rintro (z | z)
      · exact notS _ (by omega) jo2 z
      · omega
    have F12 := F1.tr F2 (hl3 := [71, 72, 73, 74]) (fl3 := [(44, 47)]) (by decide) (by decide) (by decide) (by decide)
    refine B_X12_layOven_29 hK (n34a := by omega) (n34b := by omega) (kt := fun h29 => ?_) (kf := fun h29 => ?_)
    · have htw : twJ so j = false := by simp only [twJ, d1, d2, decide_eq_false_iff_not]; omega
      refine bread0 J2 _ _ F12 (L2.cg (fun x => ?_))
      rw [htw]
      simp
    · have htw : twJ so j = true := by simp only [twJ, d1, d2, decide_eq_true_eq]; omega
      refine B_X12_layOven_37 hK hs (k := ?_)
      refine s_medge hs L2 (322 + j) (by omega) ?_ (by rw [(c_to hj2).1, show nuM r 2 = 1 from nu_pl r (p := 0) (by decide)]; rfl) (by rw [(c_to hj2).2, n1.1]; omega) (by unfold mCP; rw [if_neg (by omega)]) (by rw [cW_to _ hj2, d1]) (fun x => Iff.rfl) (fun J3 F3 L3 => ?_)
      · rintro ((z | z) | z)
        · exact notS _ (by omega) jo3 z
        · omega
        · omega
      · refine bread0 J3 _ _ (F12.tr F3 (by decide) (by decide) (by decide) (by decide)) (L3.cg (fun x => ?_))
        rw [htw]
        simp
