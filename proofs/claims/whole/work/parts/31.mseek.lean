/-! the reference's search of the cheapest way -/
def mNet (I : Nat → Nat → Int) (m : Nat) (u v : Nat → Nat) (w : Nat → Int) : Prop := I 44 47 = 2 * (m : Int) ∧ 2 * m ≤ 5000 ∧ ∀ e, e < 2 * m → I 71 e = (eF u v e : Int) ∧ I 72 e = (eT u v e : Int) ∧ I 74 e = eC w e
theorem mNet.fr {I J : Nat → Nat → Int} {m : Nat} {u v : Nat → Nat} {w : Nat → Int} (h : mNet I m u v w) (h1 : J 44 47 = I 44 47) (h2 : J 71 = I 71) (h3 : J 72 = I 72) (h4 : J 74 = I 74) : mNet J m u v w := by
  unfold mNet
  rw [h1, h2, h3, h4]
  exact h
/-- what holds in the search -/
def gSeek (I J : Nat → Nat → Int) (m : Nat) (u v : Nat → Nat) (w : Nat → Int) : Prop := Fr [75, 76] [] I J ∧ relI 340 (2 * m) (eF u v) (eT u v) (I 73) (eC w) 0 7 268435456 (J 75) ∧ ∃ came : Nat → Nat, parI 340 (2 * m) (eF u v) (eT u v) (I 73) (eC w) 0 268435456 (J 75) came ∧ ∀ n, n < 340 → n ≠ 0 → J 75 n < 268435456 → J 76 n = (came n : Int)
def muS (far : Nat → Int) : Int := sm 340 (fun n => far n + 7 * 340)
theorem eC_bd {m : Nat} {w : Nat → Int} (hw : ∀ i, i < m → -7 ≤ w i ∧ w i ≤ 7) {e : Nat} (he : e < 2 * m) : -7 ≤ eC w e ∧ eC w e ≤ 7 := by
  have := hw (e / 2) (by omega)
  unfold eC
  split <;> omega
set_option maxRecDepth 4000 in
theorem s_seek {sh : oS} {I : Nat → Nat → Int} {L : Nat → Nat → Int64} {Q : oQ} (hs : Sh sh) {m : Nat} {u v : Nat → Nat} {w : Nat → Int} (hn : mNet I m u v w) (hl : ∀ i, i < m → u i < 340 ∧ v i < 340) (hw : ∀ i, i < m → -7 ≤ w i ∧ w i ≤ 7) (hr : ∀ e, e < 2 * m → 0 ≤ I 73 e ∧ I 73 e ≤ 2000000000) {pi : Nat → Int} (hp : pot (2 * m) (eF u v) (eT u v) (I 73) (eC w) pi)
    (k : ∀ J, gSeek I J m u v w → (∀ e, e < 2 * m → 0 < I 73 e → J 75 (eF u v e) < 268435456 → J 75 (eT u v e) ≤ J 75 (eF u v e) + eC w e) → ∀ r, r = (if J 75 19 < 268435456 then 1 else 0) → Q (some (vI r)) (sh, J, L)) : T_X12_seek [vR 44] (sh, I, L) Q := by
  refine And.intro (Nat.le_of_ble_eq_true rfl) (fun K hK => ?_)
  refine B_X12_seek_0 hK (k := ?_)
  obtain ⟨n1, n2, n3⟩ := hn
  have hcb : ∀ e, e < 2 * m → -7 ≤ eC w e ∧ eC w e ≤ 7 := fun e he => eC_bd hw he
  have hfl : ∀ e, e < 2 * m → eF u v e < 340 := fun e he => (e_lt hl he).1
  have htl : ∀ e, e < 2 * m → eT u v e < 340 := fun e he => (e_lt hl he).2
  -- the end
  have fin : ∀ J, gSeek I J m u v w → (∀ e, e < 2 * m → 0 < I 73 e → J 75 (eF u v e) < 268435456 → J 75 (eT u v e) ≤ J 75 (eF u v e) + eC w e) → K 144 [some (vR 44), none, none, none] [] (sh, J, L) (0, 0) := by
    intro J hJ hc
    have hb := relI_low hp (by decide) (by decide) hfl (fun e he => (hcb e he).1) hJ.2.1 (n := 19) (by decide)
    have hb2 := hJ.2.1.2.1 19 (by decide)
    refine B_X12_seek_144 hK hs (n154a := by omega) (kt := fun h144 => ?_) (kf := fun h144 => ?_)
    · refine B_X12_seek_161 hK (k := ?_)
      refine B_X12_seek_162 hK (o162 := by decide) (k := ?_)
      exact k J hJ hc _ (by rw [if_neg (by omega)])
    · refine B_X12_seek_157 hK (k := ?_)
      refine B_X12_seek_162 hK (o162 := by decide) (k := ?_)
      exact k J hJ hc _ (by rw [if_pos (by omega)])
  -- the passes
  have outer : ∀ (M : Nat) (J : Nat → Nat → Int), gSeek I J m u v w → muS (J 75) ≤ M → K 33 [some (vR 44), some (vI 1), none, none] [] (sh, J, L) (0, 0) := by
    intro M
    induction M with
    | zero =>
      intro J hJ hM
      exfalso
      have h1 : ∀ n, n < 340 → 0 ≤ J 75 n + 7 * 340 := fun n hn => by
        have := relI_low hp (by decide) (by decide) hfl (fun e he => (hcb e he).1) hJ.2.1 hn
        omega
      have h2 := sm_term (n := 340) (f := fun n => J 75 n + 7 * 340) h1 0 (by decide)
      have h3 := hJ.2.1.1
      unfold muS at hM
      simp only [h3] at h2
      omega
    | succ M ih =>
      intro J hJ hM
      refine B_X12_seek_33 hK (n34 := by decide) (kt := fun h => absurd h (by decide)) (kf := fun _ => ?_)
      refine B_X12_seek_37 hK (k := ?_)
      have inner : ∀ (d e : Nat) (less : Int) (J : Nat → Nat → Int), e + d = 2 * m → gSeek I J m u v w → ((less = 0 ∧ muS (J 75) ≤ (M + 1 : Nat) ∧ ∀ e', e' < e → 0 < I 73 e' → J 75 (eF u v e') < 268435456 → J 75 (eT u v e') ≤ J 75 (eF u v e') + eC w e') ∨ (less = 1 ∧ muS (J 75) ≤ M)) → K 41 [some (vR 44), some (vI less), some (vI (e : Int)), none] [] (sh, J, L) (0, 0) := by
        intro d
        induction d with
        | zero =>
          intro e less J he hJ hc
          have hJe : J 44 47 = 2 * (m : Int) := by rw [hJ.1 44 47 (by decide) (by decide)]; exact n1
          refine B_X12_seek_41 hK hs (n46a := by omega) (n46b := by omega) (kt := fun _ => ?_) (kf := fun h => absurd (by omega) h)
          refine B_X12_seek_141 hK (k := ?_)
          rcases hc with ⟨rfl, hm, hc⟩ | ⟨rfl, hm⟩
          · refine B_X12_seek_33 hK (n34 := by decide) (kt := fun _ => ?_) (kf := fun h => absurd rfl h)
            exact fin J hJ (fun e' he' => hc e' (by omega))
          · exact ih J hJ hm
        | succ d ihd =>
          intro e less J he hJ hc
          have hJe : J 44 47 = 2 * (m : Int) := by rw [hJ.1 44 47 (by decide) (by decide)]; exact n1
          have he2 : e < 2 * m := by omega
          obtain ⟨f1, f2, f3⟩ := n3 e he2
          have a71 : J 71 e = (eF u v e : Int) := by rw [hJ.1 71 e (by decide) (by simp)]; exact f1
          have a72 : J 72 e = (eT u v e : Int) := by rw [hJ.1 72 e (by decide) (by simp)]; exact f2
          have a74 : J 74 e = eC w e := by rw [hJ.1 74 e (by decide) (by simp)]; exact f3
          have a73 : J 73 e = I 73 e := hJ.1 73 e (by decide) (by simp)
          have c1 := hcb e he2
          have c2 := hfl e he2
          have c3 := htl e he2
          have c4 := hr e he2
          have lo := fun n hn => relI_low hp (by decide) (by decide) hfl (fun e he => (hcb e he).1) hJ.2.1 (n := n) hn
          have b1 := lo _ c2
          have b2 := lo _ c3
          have b3 := hJ.2.1.2.1 _ c2
          have b4 := hJ.2.1.2.1 _ c3
          refine B_X12_seek_41 hK hs (n46a := by omega) (n46b := by omega) (kt := fun h => absurd h (by omega)) (kf := fun _ => ?_)
          have step : ∀ (J : Nat → Nat → Int) (less : Int), gSeek I J m u v w → ((less = 0 ∧ muS (J 75) ≤ (M + 1 : Nat) ∧ ∀ e', e' < e + 1 → 0 < I 73 e' → J 75 (eF u v e') < 268435456 → J 75 (eT u v e') ≤ J 75 (eF u v e') + eC w e') ∨ (less = 1 ∧ muS (J 75) ≤ M)) → K 135 [some (vR 44), some (vI less), some (vI (e : Int)), none] [] (sh, J, L) (0, 0) := by
            intro J less hJ hc
            refine B_X12_seek_135 hK (k := ?_)
            exact ihd (e + 1) less J (by omega) hJ hc
          -- nothing is bettered here
          have skip : (0 < I 73 e → J 75 (eF u v e) < 268435456 → J 75 (eT u v e) ≤ J 75 (eF u v e) + eC w e) → K 135 [some (vR 44), some (vI less), some (vI (e : Int)), none] [] (sh, J, L) (0, 0) := by
            intro hcl
            refine step J less hJ ?_
            rcases hc with ⟨h1, h2, h3⟩ | h1
            · refine Or.inl ⟨h1, h2, fun e' he' => ?_⟩
              rcases Nat.lt_or_ge e' e with q | q
              · exact h3 e' q
              · have : e' = e := by omega
                subst this
                exact hcl
            · exact Or.inr h1
          have t1 : (J 71 ((e : Int).toNat)).toNat = eF u v e := by rw [Int.toNat_natCast, a71, Int.toNat_natCast]
          have t2 : (J 72 ((e : Int).toNat)).toNat = eT u v e := by rw [Int.toNat_natCast, a72, Int.toNat_natCast]
          have t3 : J 73 ((e : Int).toNat) = I 73 e := by rw [Int.toNat_natCast, a73]
          have t4 : J 74 ((e : Int).toNat) = eC w e := by rw [Int.toNat_natCast, a74]
          refine B_X12_seek_49 hK hs (b58 := by omega) (b59 := by rw [Int.toNat_natCast, a71]; omega) (n74 := by rw [t3]; omega) (kt := fun h49 => ?_) (kf := fun h49 => ?_)
          · refine skip (fun q => ?_)
            rw [t3] at h49; omega
          rw [t3] at h49
          refine B_X12_seek_77 hK hs (b86 := by omega) (b87 := by rw [Int.toNat_natCast, a71]; omega) (n91a := by rw [t1]; omega) (kt := fun h77 => ?_) (kf := fun h77 => ?_)
          · refine skip (fun _ q => ?_)
            rw [t1] at h77; omega
          rw [t1] at h77
          rw [t1, t4]
          refine B_X12_seek_94 hK hs (b104 := by omega) (b105 := by rw [Int.toNat_natCast, a72]; omega) (n106a := by omega) (n106b := by rw [t2]; omega) (kt := fun h94 => ?_) (kf := fun h94 => ?_)
          · refine skip (fun _ _ => ?_)
            rw [t2] at h94; exact h94
          rw [t2] at h94
          refine B_X12_seek_109 hK hs (b118 := by omega) (b120 := by rw [Int.toNat_natCast, a72]; omega) (k := ?_)
          rw [t2]
          obtain ⟨came, hpar, hcm⟩ := hJ.2.2
          have hf : J 75 (eF u v e) < 268435456 := by omega
          have hlt : J 75 (eF u v e) + eC w e < J 75 (eT u v e) := by omega
          have hrel := relI_step hp (by decide) (fun e he => (hcb e he).2) he2 c2 c3 (by omega) hJ.2.1 hf hlt
          have hts : eT u v e ≠ 0 := by
            intro q
            have h1 := hrel.1
            rw [q] at h1 hlt
            simp only [if_true] at h1
            have := hJ.2.1.1
            omega
          have hps := parI_step hp hfl he2 c3 hts (by omega) hpar hf hlt
          have e75 : (u2 (u2 J 75 (eT u v e) (J 75 (eF u v e) + eC w e)) 76 (eT u v e) (e : Int)) 75 = (fun n => if n = eT u v e then J 75 (eF u v e) + eC w e else J 75 n) := by
            funext n
            simp [u2]
          refine step _ 1 ⟨?_, ?_, fun n => if n = eT u v e then e else came n, ?_, ?_⟩ (Or.inr ⟨rfl, ?_⟩)
          · exact (hJ.1.u 75 _ _ (Or.inl (by decide))).u 76 _ _ (Or.inl (by decide))
          · rw [e75]; exact hrel
          · rw [e75]; exact hps
          · intro n hn h0 hl2
            rw [e75] at hl2
            by_cases q : n = eT u v e
            · simp [u2, q]
            · simp only [if_neg q] at hl2
              simp only [u2, if_neg q]
              simp
              exact hcm n hn h0 hl2
          · rw [e75]
            have h7 := sm_upd (n := 340) (k := eT u v e) (f := fun n => J 75 n + 7 * 340) (g := fun n => (if n = eT u v e then J 75 (eF u v e) + eC w e else J 75 n) + 7 * 340) c3 (fun i _ hi => by simp only [if_neg hi])
            simp only [if_true] at h7
            have h8 : muS (J 75) ≤ (M + 1 : Nat) := by
              rcases hc with ⟨-, h2, -⟩ | ⟨-, h2⟩
              · exact h2
              · omega
            unfold muS at h8 ⊢
            rw [h7]
            omega
      exact inner (2 * m) 0 0 J (by omega) hJ (Or.inl ⟨rfl, hM, fun e' he' => absurd he' (by omega)⟩)
  -- the beginning
  have init : ∀ (d i : Nat) (J : Nat → Nat → Int), i + d = 340 → Fr [75, 76] [] I J → (∀ n, n < i → J 75 n = 268435456) → K 2 [some (vR 44), some (vI (i : Int)), none, none] [] (sh, J, L) (0, 0) := by
    intro d
    induction d with
    | zero =>
      intro i J hi hF hJ
      refine B_X12_seek_2 hK (n6a := by omega) (kt := fun _ => ?_) (kf := fun h => absurd (by omega) h)
      refine B_X12_seek_24 hK hs (k := ?_)
      have e75 : ∀ n, n < 340 → (u2 J 75 0 0) 75 n = (if n = 0 then 0 else 268435456) := by
        intro n hn
        by_cases q : n = 0
        · subst q; simp [u2]
        · simp [u2, q]; exact hJ n (by omega)
      have hrel : relI 340 (2 * m) (eF u v) (eT u v) (I 73) (eC w) 0 7 268435456 ((u2 J 75 0 0) 75) := by
        have h0 := relI_0 (N := 340) (ne := 2 * m) (fr := eF u v) (to := eT u v) (rm := I 73) (cs := eC w) (s := 0) (B := 7) (E := 268435456) (by decide) (by decide)
        refine ⟨by simp [u2], fun n hn => by rw [e75 n hn]; exact h0.2.1 n hn, fun n hn hlt => ?_⟩
        rw [e75 n hn] at hlt ⊢
        obtain ⟨a1, a2⟩ := h0.2.2 n hn hlt
        refine ⟨a1, ?_⟩
        have ec : cntF 340 268435456 ((u2 J 75 0 0) 75) = cntF 340 268435456 (fun n => if n = 0 then 0 else 268435456) := by
          apply sm_congr
          intro i hi
          rw [e75 i hi]
        rw [ec]
        exact a2
      refine outer (muS ((u2 J 75 0 0) 75)).toNat _ ⟨hF.u 75 0 0 (Or.inl (by decide)), hrel, fun _ => 0, ?_, ?_⟩ (by omega)
      · intro n hn h0 hlt
        rw [e75 n hn, if_neg h0] at hlt
        omega
      · intro n hn h0 hlt
        rw [e75 n hn, if_neg h0] at hlt
        omega
    | succ d ih =>
      intro i J hi hF hJ
      refine B_X12_seek_2 hK (n6a := by omega) (kt := fun h => absurd h (by omega)) (kf := fun _ => ?_)
      refine B_X12_seek_9 hK hs (b17 := by omega) (k := ?_)
      refine ih (i + 1) _ (by omega) (hF.u 75 _ _ (Or.inl (by decide))) (fun n hn => ?_)
      rw [Int.toNat_natCast]
      by_cases q : n = i
      · subst q; simp [u2]
      · simp [u2, q]; exact hJ n (by omega)
  exact init 340 0 I (by omega) Fr.rf (fun n hn => absurd hn (by omega))
