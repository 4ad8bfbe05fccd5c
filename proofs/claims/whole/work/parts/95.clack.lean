/-! the class: the first day on which too many lack -/
def cLd (I : Nat → Nat → Int) (m N : Nat) (lab : Nat → Nat) (r w : Nat → Int) (S : Nat → Prop) : Prop := nNet I m N (fun i => nuC r (cU (lab i))) (fun i => nuC r (cV (lab i))) (fun i => w (lab i)) ∧ (∀ i, i < m → S (lab i)) ∧ (∀ l, S l → ∃ i, i < m ∧ lab i = l) ∧ (∀ i j, i < m → j < m → lab i = lab j → i = j) ∧ ∀ i, i < m → lab i < 1994
theorem s_ledge2 {sh : oS} {I : Nat → Nat → Int} {L : Nat → Nat → Int64} {Q : oQ} (hs : Sh sh) {m N : Nat} {lab : Nat → Nat} {r w : Nat → Int} {S S' : Nat → Prop} (h : cLd I m N lab r w S) (hm : m < 1274) {a b rr c : Int} (l : Nat) (hl : l < 1994) (hS : ¬ S l) (ha : a = (nuC r (cU l) : Int)) (hb : b = (nuC r (cV l) : Int)) (ha2 : nuC r (cU l) < 324) (hb2 : nuC r (cV l) < 324) (hpr : (I 31 13 = 1 ∧ w l = c) ∨ (I 31 13 = 0 ∧ w l = 0)) (hS' : ∀ x, S' x ↔ S x ∨ x = l)
    (k : ∀ J, FrE I J → cLd J (m + 1) N (ex lab m l) r w S' → J 33 = up (up (I 33) (2 * m) rr) (2 * m + 1) 0 → Q none (sh, J, L)) : T_X7_edge [vR 31, vI a, vI b, vI rr, vI c] (sh, I, L) Q := by
  obtain ⟨h1, h2, h3, h4, h5⟩ := h
  rw [ha, hb]
  refine s_cedge hs h1 hm ha2 hb2 hpr (fun J F hn e33 => k J F ⟨?_, fun i hi => ?_, fun x hx => ?_, fun i j hi hj e => ?_, fun i hi => ?_⟩ e33)
  · rw [ex_map (f := fun x => nuC r (cU x)), ex_map (f := fun x => nuC r (cV x)), ex_map (f := w)] at hn
    exact hn
  · rw [hS']
    by_cases q : i = m
    · exact Or.inr (by rw [q, ex_at])
    · rw [ex_ne q]; exact Or.inl (h2 i (by omega))
  · rcases (hS' x).1 hx with z | z
    · obtain ⟨i, i1, i2⟩ := h3 x z
      exact ⟨i, by omega, by rw [ex_ne (by omega)]; exact i2⟩
    · exact ⟨m, by omega, by rw [ex_at, z]⟩
  · by_cases q : i = m
    · by_cases q2 : j = m
      · omega
      · rw [q, ex_at, ex_ne q2] at e
        exact absurd (h2 j (by omega)) (by rw [← e]; exact hS)
    · by_cases q2 : j = m
      · rw [q2, ex_at, ex_ne q] at e
        exact absurd (h2 i (by omega)) (by rw [e]; exact hS)
      · rw [ex_ne q, ex_ne q2] at e
        exact h4 i j (by omega) (by omega) e
  · by_cases q : i = m
    · rw [q, ex_at]; exact hl
    · rw [ex_ne q]; exact h5 i (by omega)
theorem bal_ex {m : Nat} {u v u' v' : Nat → Nat} {f f' : Nat → Int} (hu : ∀ i, i < m → u' i = u i ∧ v' i = v i ∧ f' i = f i) (h0 : f' m = 0) (n : Nat) : bal (m + 1) u' v' f' n = bal m u v f n := by
  unfold bal
  simp only [sm]
  rw [h0, sm_congr (n := m) (g := fun i => (if v i = n then f i else 0) - (if u i = n then f i else 0)) (fun i hi => by rw [(hu i hi).1, (hu i hi).2.1, (hu i hi).2.2])]
  have : ((if v' m = n then (0 : Int) else 0) - (if u' m = n then 0 else 0)) = 0 := by split <;> split <;> rfl
  rw [this]
  omega
/-- where no more can flow than v -/
noncomputable def mV (cp : Nat → Int) : Int := Classical.epsilon (fun v : Int => cMax cp v)
theorem mV_is {cp : Nat → Int} {v : Int} (h : cMax cp v) : mV cp = v := by
  have g : cMax cp (mV cp) := Classical.epsilon_spec (p := fun v : Int => cMax cp v) ⟨v, h⟩
  exact g.un h
theorem bV_mV {cp w : Nat → Int} {v c : Int} (h : cBest cp w v c) : (bV cp w).1 = mV cp := by
  rw [bV_is h, mV_is h.max]
/-- days behind d without those who eat -/
def cDy (d : Nat) (c : Nat → Int) (l : Nat) : Int := if 8 ≤ l ∧ l < 18 ∧ d < l - 8 then 0 else c l
theorem node_in {phi : Nat → Int} {n : Nat} (h0 : ∀ l, l < 1994 → 0 ≤ phi l) (hb : bal 1994 cU cV phi n = 0) (ho : ∀ l, l < 1994 → cU l = n → phi l = 0) : ∀ l, l < 1994 → cV l = n → phi l = 0 := by
  intro l hl e
  have hz : ∀ i, i < 1994 → 0 ≤ (if cV i = n then phi i else 0) - (if cU i = n then phi i else 0) := fun i hi => by
    have a := h0 i hi
    by_cases q : cU i = n
    · rw [if_pos q, ho i hi q]
      split <;> omega
    · rw [if_neg q]
      split <;> omega
  have hs : sm 1994 (fun i => (if cV i = n then phi i else 0) - (if cU i = n then phi i else 0)) ≤ 0 := Int.le_of_eq hb
  have g := sm_z hz hs l hl
  rw [if_pos e] at g
  by_cases q : cU l = n
  · exact ho l hl q
  · rw [if_neg q] at g
    omega
set_option maxHeartbeats 1000000 in
theorem max_day {P : Int} {D d n : Nat} {F men col pl fr to : Nat → Int} {bk bd kp so v : Int} (hd : d < D) (hbk : 0 ≤ bk) (hm : ∀ u : Nat, u < D → 0 ≤ men u) (hF : ∀ p : Nat, (p : Int) < P → 0 ≤ F p) (h : cMax (cDy d (capJ P ((D : Int) - 1) F men col n pl fr to bk bd kp so)) v) : cMax (capJ P (d : Int) F men col n pl fr to bk bd kp so) v := by
  obtain ⟨phi, R, ⟨f1, f2⟩, R0, R1, R2, R3, hv⟩ := h
  have f0 : ∀ l, l < 1994 → 0 ≤ phi l := fun l hl => (f1 l hl).1
  have fu : ∀ l, l < 1994 → phi l ≤ cDy d (capJ P ((D : Int) - 1) F men col n pl fr to bk bd kp so) l := fun l hl => (f1 l hl).2
  -- what is in both
  have ceq : ∀ l, l < 1994 → cDy d (capJ P ((D : Int) - 1) F men col n pl fr to bk bd kp so) l = capJ P (d : Int) F men col n pl fr to bk bd kp so l ∨ (18 ≤ l ∧ ((d : Int) < ((jOf l % 19 : Nat) : Int) - 9 ∨ (474 ≤ l ∧ d < (l - 474) % 10))) := by
    intro l hl
    unfold cDy capJ cC
    by_cases a1 : l < 8
    · refine Or.inl ?_
      rw [if_neg (by omega), if_pos a1, if_pos a1]
    · by_cases a2 : l < 18
      · refine Or.inl ?_
        rw [if_neg a1, if_pos a2, if_neg a1, if_pos a2]
        unfold MJ
        by_cases a3 : d < l - 8
        · rw [if_pos ⟨by omega, a2, a3⟩, if_neg (by omega)]
        · rw [if_neg (by omega), if_pos (by omega), if_pos (by omega)]
      · rw [if_neg (by omega), if_neg a1, if_neg a2, if_neg a1, if_neg a2]
        have rj : ∀ j, ((j % 19 : Nat) : Int) - 9 ≤ (d : Int) → rJ P ((D : Int) - 1) n pl fr to bk bd so j = rJ P (d : Int) n pl fr to bk bd so j := fun j hj => by
          unfold rJ
          by_cases b : ((j / 19 : Nat) : Int) < P
          · rw [if_pos ⟨b, by omega⟩, if_pos ⟨b, hj⟩]
          · rw [if_neg (fun z => b z.1), if_neg (fun z => b z.1)]
        by_cases late : (d : Int) < ((jOf l % 19 : Nat) : Int) - 9
        · exact Or.inr ⟨by omega, Or.inl late⟩
        · unfold jOf at late
          by_cases a3 : l < 170
          · refine Or.inl ?_
            rw [if_pos a3] at late
            rw [if_pos a3, if_pos a3, rj _ (by omega)]
          · rw [if_neg a3] at late
            rw [if_neg a3, if_neg a3]
            by_cases a4 : l < 322
            · refine Or.inl ?_
              rw [if_pos a4] at late
              rw [if_pos a4, if_pos a4, rj _ (by omega)]
            · rw [if_neg a4] at late
              rw [if_neg a4, if_neg a4]
              by_cases a5 : l < 474
              · refine Or.inl ?_
                rw [if_pos a5] at late
                rw [if_pos a5, if_pos a5, rj _ (by omega)]
              · rw [if_neg a5] at late
                rw [if_neg a5, if_neg a5]
                by_cases a6 : d < (l - 474) % 10
                · exact Or.inr ⟨by omega, Or.inr ⟨by omega, a6⟩⟩
                · refine Or.inl ?_
                  have ee : eaJ ((D : Int) - 1) kp col ((l - 474) / 10) ((l - 474) % 10) = eaJ (d : Int) kp col ((l - 474) / 10) ((l - 474) % 10) := by
                    unfold eaJ
                    apply decide_eq_decide.2
                    constructor
                    · intro z; exact ⟨by omega, z.2⟩
                    · intro z; exact ⟨by omega, z.2⟩
                  rw [ee, rj _ (by omega)]
  -- nothing comes to later days
  have z1 : ∀ u, d < u → u < 10 → ∀ l, l < 1994 → cV l = 10 + u → phi l = 0 := by
    intro u hu hu2
    refine node_in f0 (f2 (10 + u) (by omega) (by omega) (by omega)) (fun l hl e => ?_)
    have e2 : l = 8 + u := by
      unfold cU at e
      repeat' split at e
      all_goals omega
    have a := fu l hl
    have b := f0 l hl
    unfold cDy at a
    rw [if_pos (by omega)] at a
    omega
  -- nothing is baked later
  have z2 : ∀ j, j < 152 → (d : Int) < ((j % 19 : Nat) : Int) - 9 → phi (18 + j) = 0 := by
    intro j hj hl2
    refine node_in f0 (f2 (21 + 2 * j) (by omega) (by omega) (by omega)) (fun l hl e => ?_) (18 + j) (by omega) (c_in hj).2
    have e2 : 474 ≤ l ∧ (l - 474) / 10 = j := by
      unfold cU at e
      repeat' split at e
      all_goals omega
    by_cases a : d < (l - 474) % 10
    · refine z1 ((l - 474) % 10) a (by omega) l hl ?_
      unfold cV
      rw [if_neg (by omega), if_neg (by omega), if_neg (by omega), if_neg (by omega), if_neg (by omega)]
    · have b := fu l hl
      have b0 := f0 l hl
      unfold cDy capJ cC at b
      rw [if_neg (by omega), if_neg (by omega), if_neg (by omega), if_neg (by omega), if_neg (by omega), if_neg (by omega), e2.2] at b
      have ee : eaJ ((D : Int) - 1) kp col j ((l - 474) % 10) = false := by
        unfold eaJ
        apply decide_eq_false
        intro z
        have : 0 ≤ fAbs (col ((l - 474) % 10) - ((j / 19 : Nat) : Int)) := by unfold fAbs; split <;> omega
        omega
      rw [ee] at b
      simp at b
      omega
  have z3 : ∀ j, j < 152 → (d : Int) < ((j % 19 : Nat) : Int) - 9 → ∀ l, l < 1994 → cV l = 20 + 2 * j → phi l = 0 := by
    intro j hj hl2
    refine node_in f0 (f2 (20 + 2 * j) (by omega) (by omega) (by omega)) (fun l hl e => ?_)
    rw [cU_in hl e]
    exact z2 j hj hl2
  have le : ∀ l, l < 1994 → phi l ≤ capJ P (d : Int) F men col n pl fr to bk bd kp so l := by
    intro l hl
    have nn : 0 ≤ capJ P (d : Int) F men col n pl fr to bk bd kp so l := by
      unfold capJ
      refine cC_nn (fun p => ?_) (fun u => ?_) (fun j => rJ_nn hbk j) l
      · unfold FJ
        split
        · exact hF p (by assumption)
        · omega
      · unfold MJ
        split
        · exact hm u (by omega)
        · omega
    rcases ceq l hl with e | ⟨e1, e2 | ⟨e2, e3⟩⟩
    · rw [← e]; exact fu l hl
    · have : phi l = 0 := by
        unfold jOf at e2
        by_cases a3 : l < 170
        · rw [if_pos a3] at e2
          have := z2 (l - 18) (by omega) e2
          rw [show 18 + (l - 18) = l by omega] at this
          exact this
        · rw [if_neg a3] at e2
          by_cases a4 : l < 322
          · rw [if_pos a4] at e2
            exact z3 (l - 170) (by omega) e2 l hl (by have := (c_lo (j := l - 170) (by omega)).2; rw [show 170 + (l - 170) = l by omega] at this; exact this)
          · rw [if_neg a4] at e2
            by_cases a5 : l < 474
            · rw [if_pos a5] at e2
              exact z3 (l - 322) (by omega) e2 l hl (by have := (c_to (j := l - 322) (by omega)).2; rw [show 322 + (l - 322) = l by omega] at this; exact this)
            · rw [if_neg a5] at e2
              have b := fu l hl
              have b0 := f0 l hl
              by_cases a6 : d < (l - 474) % 10
              · refine z1 ((l - 474) % 10) a6 (by omega) l hl ?_
                unfold cV
                rw [if_neg (by omega), if_neg (by omega), if_neg (by omega), if_neg (by omega), if_neg (by omega)]
              · unfold cDy capJ cC at b
                rw [if_neg (by omega), if_neg (by omega), if_neg (by omega), if_neg (by omega), if_neg (by omega), if_neg (by omega)] at b
                have ee : eaJ ((D : Int) - 1) kp col ((l - 474) / 10) ((l - 474) % 10) = false := by
                  unfold eaJ
                  apply decide_eq_false
                  intro z
                  have : 0 ≤ fAbs (col ((l - 474) % 10) - (((l - 474) / 10 / 19 : Nat) : Int)) := by unfold fAbs; split <;> omega
                  omega
                rw [ee] at b
                simp at b
                omega
      omega
    · have : phi l = 0 := by
        refine z1 ((l - 474) % 10) e3 (by omega) l hl ?_
        unfold cV
        rw [if_neg (by omega), if_neg (by omega), if_neg (by omega), if_neg (by omega), if_neg (by omega)]
      omega
  refine ⟨phi, R, ⟨fun l hl => ⟨f0 l hl, le l hl⟩, f2⟩, R0, R1, fun l hl q => R2 l hl ?_, R3, hv⟩
  rcases ceq l hl with e | ⟨e1, e2⟩
  · rw [e]; exact q
  · -- where they differ the later one has no room
    exfalso
    have zero : capJ P (d : Int) F men col n pl fr to bk bd kp so l = 0 := by
      have rz : ∀ j, (d : Int) < ((j % 19 : Nat) : Int) - 9 → rJ P (d : Int) n pl fr to bk bd so j = 0 := fun j hj => by
        unfold rJ
        rw [if_neg (by omega)]
      unfold capJ cC
      rw [if_neg (by omega), if_neg (by omega)]
      rcases e2 with e2 | ⟨e2, e3⟩
      · unfold jOf at e2
        by_cases a3 : l < 170
        · rw [if_pos a3] at e2
          rw [if_pos a3]; exact rz _ e2
        · rw [if_neg a3] at e2
          rw [if_neg a3]
          by_cases a4 : l < 322
          · rw [if_pos a4] at e2
            rw [if_pos a4]; exact rz _ e2
          · rw [if_neg a4] at e2
            rw [if_neg a4]
            by_cases a5 : l < 474
            · rw [if_pos a5] at e2
              rw [if_pos a5, rz _ e2]
              split <;> rfl
            · rw [if_neg a5] at e2
              rw [if_neg a5, rz _ e2]
              split <;> rfl
      · rw [if_neg (by omega), if_neg (by omega), if_neg (by omega)]
        have ee : eaJ (d : Int) kp col ((l - 474) / 10) ((l - 474) % 10) = false := by
          unfold eaJ
          apply decide_eq_false
          intro z
          omega
        rw [ee]
        rfl
    have := f0 l hl
    omega
