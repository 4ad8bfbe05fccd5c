/-! what a list of stands and its value hang upon: places of the land, days of the march -/
theorem addF_cg {P : Int} {wd wd' : Nat → Int} (h : ∀ p : Nat, (p : Int) < P → wd p = wd' p) : addF P wd = addF P wd' := by
  funext D p f t l
  unfold addF
  by_cases z : 0 ≤ p ∧ p < P
  · rw [h p.toNat (by omega)]
  · rw [if_neg (fun y => z y.1.1), if_neg (fun y => z y.1.1)]
theorem addS_cg {P : Int} {wd wd' : Nat → Int} (h : ∀ p : Nat, (p : Int) < P → wd p = wd' p) (D p f t : Int) (k : Nat) (l : List stT) : addS P wd D p f t k l = addS P wd' D p f t k l := by
  induction k with
  | zero => rfl
  | succ k ih =>
    show addF P wd D p f t (addS P wd D p f t k l) = addF P wd' D p f t (addS P wd' D p f t k l)
    rw [ih, addF_cg h]
theorem flF_cw {P : Int} {wd wd' : Nat → Int} (h : ∀ p : Nat, (p : Int) < P → wd p = wd' p) (D : Int) (sp : Int → Int) (k : Nat) (n : Int) : ∀ f t last l, flF P wd D sp k n f t last l = flF P wd' D sp k n f t last l
  | 0, _, _, _ => rfl
  | f + 1, t, last, l => by
    unfold flF
    rw [addS_cg h, flF_cw h D sp k n f]
theorem two_cg {P : Int} {wd wd' : Nat → Int} (h : ∀ p : Nat, (p : Int) < P → wd p = wd' p) : two P wd = two P wd' := by
  funext D k a b
  unfold two
  rw [addF_cg h]
theorem toL_cg {P : Int} {wd wd' : Nat → Int} (h : ∀ p : Nat, (p : Int) < P → wd p = wd' p) (D : Int) {T T' : Nat → Int} : ∀ i, (∀ x, x < 3 * i → T x = T' x) → toL P wd D T i = toL P wd' D T' i
  | 0, _ => rfl
  | i + 1, ht => by
    unfold toL
    rw [toL_cg h D i (fun x hx => ht x (by omega)), addF_cg h, ht (3 * i) (by omega), ht (3 * i + 1) (by omega), ht (3 * i + 2) (by omega)]
theorem spF_cg {wd wd' : Nat → Int} : ∀ n, (∀ p, p < n → wd p = wd' p) → spF wd n = spF wd' n
  | 0, _ => rfl
  | n + 1, h => by
    unfold spF
    rw [h n (by omega), spF_cg n (fun p hp => h p (by omega))]
theorem colP_cg {P : Int} {S S' : Nat → Int} {way : Int} {D : Nat} (h : ∀ d, d < D → S d = S' d) {d : Nat} (hd : d < D) : colP P S way d = colP P S' way d := by
  unfold colP
  rw [wkP_cg (d + 1) (fun x hx => h x (by omega))]
theorem bV_cg {cp w w' : Nat → Int} (h2 : ∀ l, l < 1994 → cp l ≠ 0 → w l = w' l) : bV cp w = bV cp w' := by
  unfold bV
  have : (fun p : Int × Int => cBest cp w p.1 p.2) = (fun p : Int × Int => cBest cp w' p.1 p.2) := by
    funext p
    exact propext ⟨fun h => cBest_cg h (fun _ _ => rfl) h2, fun h => cBest_cg h (fun _ _ => rfl) (fun l hl hz => (h2 l hl hz).symm)⟩
  rw [this]
theorem evL_cg {P last : Int} {F F' men men' col col' : Nat → Int} {l : List stT} {bk bd kp so : Int} (hF : ∀ p : Nat, (p : Int) < P → F p = F' p) (hM : ∀ u : Nat, (u : Int) ≤ last → men u = men' u) (hC : ∀ u : Nat, (u : Int) ≤ last → col u = col' u) : evL P last F men col l bk bd kp so = evL P last F' men' col' l bk bd kp so := by
  have e1 : FJ P F = FJ P F' := by
    funext p
    unfold FJ
    split
    · exact hF p (by assumption)
    · rfl
  have e2 : MJ last men = MJ last men' := by
    funext u
    unfold MJ
    split
    · exact hM u (by assumption)
    · rfl
  have e3 : eaJ last kp col = eaJ last kp col' := by
    funext j u
    unfold eaJ
    by_cases z : (u : Int) ≤ last
    · rw [hC u z]
    · rw [decide_eq_false (fun y => z y.1), decide_eq_false (fun y => z y.1)]
  have e4 : capL P last F men col l bk bd kp so = capL P last F' men' col' l bk bd kp so := by
    unfold capL capJ
    rw [e1, e2, e3]
  have e5 : sm (last + 1).toNat men = sm (last + 1).toNat men' := sm_congr (fun i hi => hM i (by omega))
  unfold evL
  rw [e4, e5, bV_cg (w := cW col) (w' := cW col')]
  intro x hx hz
  unfold cW
  by_cases y1 : x < 322
  · rw [if_pos y1, if_pos y1]
  · by_cases y2 : x < 474
    · rw [if_neg y1, if_neg y1, if_pos y2, if_pos y2]
    · rw [if_neg y1, if_neg y1, if_neg y2, if_neg y2]
      have : (((x - 474) % 10 : Nat) : Int) ≤ last := by
        by_cases q : eaJ last kp col' ((x - 474) / 10) ((x - 474) % 10) = true
        · unfold eaJ at q
          exact (of_decide_eq_true q).1
        · exfalso
          apply hz
          unfold capL capJ cC
          rw [if_neg (by omega), if_neg (by omega), if_neg (by omega), if_neg (by omega), if_neg (by omega), if_neg q]
      rw [hC _ this]
theorem bsS_cg {may may' : Nat → Bool} {E E' : Nat → Int × Int} : ∀ c, (∀ x, x < c → may x = may' x) → (∀ x, x < c → may x = true → E x = E' x) → bsS may E c = bsS may' E' c
  | 0, _, _ => rfl
  | c + 1, h1, h2 => by
    unfold bsS
    rw [bsS_cg c (fun x hx => h1 x (by omega)) (fun x hx => h2 x (by omega)), ← h1 c (by omega)]
    by_cases z : may c = true
    · rw [h2 c (by omega) z]
    · rw [if_neg (fun y => z y.1), if_neg (fun y => z y.1)]
theorem bMay_cg {P n : Int} {wd wd' : Nat → Int} (h : ∀ p : Nat, (p : Int) < P → wd p = wd' p) : bMay P wd n = bMay P wd' n := by
  funext c
  unfold bMay
  by_cases z : (bA n c : Int) < P ∧ ((c % 8 : Nat) : Int) < P
  · rw [h _ z.1, h _ z.2]
  · rw [decide_eq_false (fun y => z ⟨y.1, y.2.1⟩), decide_eq_false (fun y => z ⟨y.1, y.2.1⟩)]
theorem rawL_cg {P bk bd kp way kind k n : Int} {D : Nat} {F F' wd wd' men men' S S' T T' : Nat → Int} (hP : 1 ≤ P) (hD : 1 ≤ D) (hn : kind ≠ 0 → kind ≠ 3 → kind ≠ 4 → 0 ≤ n) (hF : ∀ p : Nat, (p : Int) < P → F p = F' p) (hW : ∀ p : Nat, (p : Int) < P → wd p = wd' p) (hM : ∀ d, d < D → men d = men' d) (hS : ∀ d, d < D → S d = S' d) (hT : ∀ x, x < 18 → T x = T' x) : rawL P F wd bk bd kp (D : Int) men S way kind k n T = rawL P F' wd' bk bd kp (D : Int) men' S' way kind k n T' := by
  unfold rawL
  by_cases z0 : kind = 0
  · rw [if_pos z0, if_pos z0, addS_cg hW]
  · rw [if_neg z0, if_neg z0]
    by_cases z3 : kind = 3
    · rw [if_pos z3, if_pos z3]
      unfold bsL bTw
      rw [two_cg hW, bMay_cg hW, bsS_cg (may := bMay P wd' k) (may' := bMay P wd' k) (if k = 1 then 8 else 64) (fun _ _ => rfl) (fun x _ _ => evL_cg hF (fun u hu => hM u (by omega)) (fun u hu => colP_cg hS (by omega)))]
    · rw [if_neg z3, if_neg z3]
      by_cases z4 : kind = 4
      · rw [if_pos z4, if_pos z4, toL_cg hW _ 6 (fun x hx => hT x (by omega))]
      · rw [if_neg z4, if_neg z4, flF_cw hW]
        have hn0 := hn z0 z3 z4
        refine flF_cg (fun t ht ht2 => ?_) hn0 10 0 (-1) [] (by omega)
        unfold spD
        have y : 0 ≤ (if (if kind = 2 then t + n else t) < (D : Int) then (if kind = 2 then t + n else t) else (D : Int) - 1) ∧ (if (if kind = 2 then t + n else t) < (D : Int) then (if kind = 2 then t + n else t) else (D : Int) - 1) < D := by
          split <;> (try split) <;> omega
        generalize (if (if kind = 2 then t + n else t) < (D : Int) then (if kind = 2 then t + n else t) else (D : Int) - 1) = x at y
        rw [colP_cg hS (d := x.toNat) (by omega)]
        have cb := colP_bd (P := P) (S := S') (way := way) hP x.toNat
        exact spF_cg _ (fun p hp => hW p (by omega))
