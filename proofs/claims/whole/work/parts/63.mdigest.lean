/-! the reference: digest -/
def lH (L : Nat → Nat → Int64) (h : Int64) : Nat → Nat → Int64 := u2L L 44 59 h
theorem lH_lH {L : Nat → Nat → Int64} {a b : Int64} : u2L (lH L a) 44 59 b = lH L b := by
  funext x y
  unfold lH u2L
  by_cases e1 : x = 44
  · by_cases e2 : y = 59
    · rw [if_pos e1, if_pos e2, if_pos e1, if_pos e2]
    · rw [if_pos e1, if_neg e2, if_pos e1, if_neg e2, if_pos e1, if_neg e2]
  · rw [if_neg e1, if_neg e1, if_neg e1]
theorem lH_at {L : Nat → Nat → Int64} {a : Int64} : lH L a 44 59 = a := rfl
def mxL (h w : Int64) : Int64 := gAdd (gMul 31 h) w
def mx (h : Int64) (v : Int) : Int64 := mxL h (Int32.ofInt v).toInt64
def itr (f : Nat → Int64 → Int64) : Nat → Int64 → Int64
  | 0, h => h
  | n + 1, h => f n (itr f n h)
theorem itr_0 {f : Nat → Int64 → Int64} {h : Int64} : itr f 0 h = h := rfl
def lanD (I : Nat → Nat → Int) : Int64 := itr (fun p h => mx (mx h (I 45 p)) (if I 46 p = 0 then 0 else 1)) (I 44 0).toNat (if I 44 0 ≤ 0 then 397 else itr (fun x h => mx h (lndV I x)) 5 397)
def marD2 (I : Nat → Nat → Int) (m : Nat) (h : Int64) : Int64 := itr (fun x h => mx h (I 51 (2 * m + x))) (I 50 m).toNat (itr (fun d h => mx h (vM I m d)) (I 47 m).toNat (mx h (I 47 m)))
def marD (I : Nat → Nat → Int) (m : Nat) (h : Int64) : Int64 := if I 44 0 ≤ 0 then marD2 I m h else itr (fun d h => mx h (colP (I 44 0) (vS I m) (vOn I m) d)) (I 47 m).toNat (marD2 I m h)
noncomputable def plaD (I : Nat → Nat → Int) (p : Nat) (h : Int64) : Int64 := if I 52 p = 3 ∨ I 44 0 ≤ 0 ∨ I 44 8 ≤ 0 then mx (mx (mx h (I 52 p)) (I 53 p)) (I 54 p) else mx (mx (mx (mx (mx h (I 52 p)) (I 53 p)) (I 54 p)) (pRaw I 0 p 0).length) (anV I 0 p 0)
noncomputable def digV (I : Nat → Nat → Int) : Int64 := itr (fun x h => mx h (hmV I x)) 6 (itr (fun x h => mx h (I 56 x)) (I 44 19).toNat (itr (plaD I) (I 44 14).toNat (itr (marD I) (I 44 8).toNat (lanD I))))
theorem s_mix {sh : oS} {I : Nat → Nat → Int} {L : Nat → Nat → Int64} {Q : oQ} (hs : Sh sh) {h w : Int64} (k : Q none (sh, I, lH L (mxL h w))) : T_X12_mix [vR 44, vL w] (sh, I, lH L h) Q := by
  refine And.intro (Nat.le_of_ble_eq_true rfl) (fun K hK => ?_)
  refine B_X12_mix_0 hK hs (k := ?_)
  rw [lH_at, lH_lH]
  exact k
theorem s_mixI {sh : oS} {I : Nat → Nat → Int} {L : Nat → Nat → Int64} {Q : oQ} (hs : Sh sh) {h : Int64} {v : Int} (k : Q none (sh, I, lH L (mx h v))) : T_X12_mix [vR 44, vL (Int32.ofInt v).toInt64] (sh, I, lH L h) Q := s_mix hs k
theorem s_loadQ {sh : oS} {I : Nat → Nat → Int} {L : Nat → Nat → Int64} {Q : oQ} {J : Nat → Nat → Int} (hs : Sh sh) {m : Nat} (h : mOK I) (F : FrQ I J) (gm : (m : Int) < I 44 8) (k : ∀ J1, FrQ I J1 → mLd I J1 m → Q none (sh, J1, L)) : T_X12_load [vR 44, vI m] (sh, J, L) Q := by
  obtain ⟨h1, h2, h3, h4, h5, h6, h7, h8, h9, h10, h11⟩ := id h
  have hm' := h9 m gm
  have e47 : J 47 = I 47 := fn_eq F 47 (by decide) (by decide)
  have e48 : J 48 = I 48 := fn_eq F 48 (by decide) (by decide)
  have e49 : J 49 = I 49 := fn_eq F 49 (by decide) (by decide)
  have e50 : J 50 = I 50 := fn_eq F 50 (by decide) (by decide)
  refine s_load hs (by omega) (by rw [e47]; omega) (fun J1 F1 d1 d2 d3 => ?_)
  rw [e47] at d1 d3
  rw [e50] at d2
  rw [e48, e49] at d3
  refine k J1 (F.tr F1 (by decide) (by decide) (by decide) (by decide)) ⟨d1, d2, fun d hd => ?_⟩
  unfold vS vM
  rw [if_pos hd, if_pos hd]
  exact d3 d hd
set_option maxHeartbeats 1000000 in
theorem s_mixMarch {sh : oS} {I : Nat → Nat → Int} {L : Nat → Nat → Int64} {Q : oQ} {J : Nat → Nat → Int} (hs : Sh sh) {m : Nat} {hh : Int64} (h : mOK I) (F : FrQ I J) (gm : (m : Int) < I 44 8) (k : ∀ J1, FrQ I J1 → Q none (sh, J1, lH L (marD I m hh))) : T_X12_mixMarch [vR 44, vI m] (sh, J, lH L hh) Q := by
  refine And.intro (Nat.le_of_ble_eq_true rfl) (fun K hK => ?_)
  obtain ⟨h1, h2, h3, h4, h5, h6, h7, h8, h9, h10, h11⟩ := id h
  have hm' := h9 m gm
  refine B_X12_mixMarch_0 hK hs (k := ?_)
  refine s_loadQ hs h F gm (fun J1 F1 ld => ?_)
  obtain ⟨d1, d2, d3⟩ := id ld
  have e0 : J1 44 0 = I 44 0 := F1 44 0 (by decide) (by decide)
  have e51 : J1 51 = I 51 := fn_eq F1 51 (by decide) (by decide)
  refine B_X12_mixMarch_5 hK hs (k := ?_)
  rw [d1]
  refine s_mixI hs ?_
  refine B_X12_mixMarch_14 hK (k := ?_)
  generalize ha : mx hh (I 47 m) = a
  have lp : ∀ (n y : Nat), (y : Int) + n = I 47 m → K 16 [some (vR 44), some (vI (m : Int)), some (vI (y : Int))] [] (sh, J1, lH L (itr (fun d h => mx h (vM I m d)) y a)) (0, 0) := by
    intro n
    induction n with
    | zero =>
      intro y hn
      refine B_X12_mixMarch_16 hK hs (n21a := by omega) (n21b := by omega) (kt := fun _ => ?_) (kf := fun t => absurd (by omega) t)
      refine B_X12_mixMarch_41 hK (k := ?_)
      have ey : y = (I 47 m).toNat := by omega
      rw [ey]
      generalize hb : itr (fun d h => mx h (vM I m d)) (I 47 m).toNat a = b
      have lp2 : ∀ (n y : Nat), (y : Int) + n = I 50 m → K 43 [some (vR 44), some (vI (m : Int)), some (vI (y : Int))] [] (sh, J1, lH L (itr (fun x h => mx h (I 51 (2 * m + x))) y b)) (0, 0) := by
        intro n
        induction n with
        | zero =>
          intro y hn
          refine B_X12_mixMarch_43 hK hs (n48a := by omega) (n48b := by omega) (kt := fun _ => ?_) (kf := fun t => absurd (by omega) t)
          have ey : y = (I 50 m).toNat := by omega
          rw [ey]
          have ec : itr (fun x h => mx h (I 51 (2 * m + x))) (I 50 m).toNat b = marD2 I m hh := by
            unfold marD2
            rw [← hb, ← ha]
          rw [ec]
          unfold marD at k
          clear ec
          generalize marD2 I m hh = c at k ⊢
          refine B_X12_mixMarch_72 hK hs (n76 := by omega) (kt := fun t => ?_) (kf := fun t => ?_)
          · rw [e0] at t
            rw [if_pos t] at k
            exact B_X12_mixMarch_114 hK (k := k J1 F1)
          · rw [e0] at t
            rw [if_neg t] at k
            refine B_X12_mixMarch_79 hK hs (k := ?_)
            refine s_allOn hs ?_
            have eo : fShl 1 (J1 44 39) - 1 = vOn I m := by rw [d2]; rfl
            rw [eo]
            refine B_X12_mixMarch_84 hK hs (k := ?_)
            refine s_mwalk hs (D := (I 47 m).toNat) (by omega) (by omega) (by omega) (fun d hd => ?_) (fun J2 F2 C2 => ?_)
            · have a := (d3 d (by omega)).1
              have b := (hm'.2.2.1 d (by omega)).1
              unfold vS at a
              rw [if_pos (by omega)] at a
              omega
            have e38 : J2 44 38 = I 47 m := by rw [F2 44 38 (by decide) (by decide)]; exact d1
            refine B_X12_mixMarch_87 hK (k := ?_)
            generalize hf : (fun (d : Nat) (h : Int64) => mx h (colP (I 44 0) (vS I m) (vOn I m) d)) = f at k
            have lp3 : ∀ (n y : Nat), (y : Int) + n = I 47 m → K 89 [some (vR 44), none, some (vI (y : Int))] [] (sh, J2, lH L (itr f y c)) (0, 0) := by
              intro n
              induction n with
              | zero =>
                intro y hn
                refine B_X12_mixMarch_89 hK hs (n94a := by omega) (n94b := by omega) (kt := fun _ => ?_) (kf := fun t => absurd (by omega) t)
                have ey : y = (I 47 m).toNat := by omega
                rw [ey]
                exact B_X12_mixMarch_114 hK (k := k J2 (F1.tr F2 (by decide) (by decide) (by decide) (by decide)))
              | succ n ih =>
                intro y hn
                refine B_X12_mixMarch_89 hK hs (n94a := by omega) (n94b := by omega) (kt := fun t => absurd t (by omega)) (kf := fun _ => ?_)
                refine B_X12_mixMarch_97 hK hs (b103 := by omega) (k := ?_)
                rw [Int.toNat_natCast, C2 y (by omega), e0, colP_cg (D := (I 47 m).toNat) (S' := vS I m) (fun d hd => (d3 d (by omega)).1) (by omega)]
                refine s_mixI hs ?_
                have nx : K 89 [some (vR 44), none, some (vI ((y : Int) + 1))] [] (sh, J2, lH L (f y (itr f y c))) (0, 0) := ih (y + 1) (by omega)
                refine B_X12_mixMarch_108 hK (k := ?_)
                rw [← hf] at nx
                rw [← hf]
                exact nx
            have z := lp3 (I 47 m).toNat 0 (by omega)
            rw [itr_0] at z
            exact z
        | succ n ih =>
          intro y hn
          refine B_X12_mixMarch_43 hK hs (n48a := by omega) (n48b := by omega) (kt := fun t => absurd t (by omega)) (kf := fun _ => ?_)
          refine B_X12_mixMarch_51 hK hs (b61 := by omega) (k := ?_)
          rw [show (2 * (m : Int) + (y : Int)).toNat = 2 * m + y by omega, e51]
          refine s_mixI hs ?_
          exact B_X12_mixMarch_66 hK (k := ih (y + 1) (by omega))
      exact lp2 (I 50 m).toNat 0 (by omega)
    | succ n ih =>
      intro y hn
      refine B_X12_mixMarch_16 hK hs (n21a := by omega) (n21b := by omega) (kt := fun t => absurd t (by omega)) (kf := fun _ => ?_)
      refine B_X12_mixMarch_24 hK hs (b30 := by omega) (k := ?_)
      rw [Int.toNat_natCast, (d3 y (by omega)).2]
      refine s_mixI hs ?_
      exact B_X12_mixMarch_35 hK (k := ih (y + 1) (by omega))
  exact lp (I 47 m).toNat 0 (by omega)
set_option maxHeartbeats 1000000 in
theorem s_mdigest {sh : oS} {I : Nat → Nat → Int} {L : Nat → Nat → Int64} {Q : oQ} (hs : Sh sh) (h : mOK I) (hpg : 0 ≤ I 44 19 ∧ I 44 19 ≤ 60) (k : ∀ J, FrQ I J → Q (some (vL (digV I))) (sh, J, lH L (digV I))) : T_X12_digest [vR 44] (sh, I, L) Q := by
  refine And.intro (Nat.le_of_ble_eq_true rfl) (fun K hK => ?_)
  obtain ⟨h1, h2, h3, h4, h5, h6, h7, h8, h9, h10, h11⟩ := id h
  -- the counts
  have s6 : ∀ (J : Nat → Nat → Int) (a : Int64), FrQ I J → a = itr (fun x h => mx h (I 56 x)) (I 44 19).toNat (itr (plaD I) (I 44 14).toNat (itr (marD I) (I 44 8).toNat (lanD I))) → K 247 [some (vR 44), none] [] (sh, J, lH L a) (0, 0) := by
    intro J a FJ ea
    refine B_X12_digest_247 hK (k := ?_)
    have e : ∀ x, hmV J x = hmV I x := fun x => by
      unfold hmV
      rw [FJ 44 0 (by decide) (by decide), FJ 44 8 (by decide) (by decide), FJ 44 14 (by decide) (by decide), FJ 44 19 (by decide) (by decide), FJ 44 7 (by decide) (by decide), FJ 44 21 (by decide) (by decide)]
    have lp : ∀ (n y : Nat), y + n = 6 → K 249 [some (vR 44), some (vI (y : Int))] [] (sh, J, lH L (itr (fun x h => mx h (hmV I x)) y a)) (0, 0) := by
      intro n
      induction n with
      | zero =>
        intro y hn
        refine B_X12_digest_249 hK (n252a := by omega) (kt := fun _ => ?_) (kf := fun t => absurd (by omega) t)
        refine B_X12_digest_271 hK hs (k := ?_)
        have ey : y = 6 := by omega
        rw [ey, lH_at, ea]
        exact k J FJ
      | succ n ih =>
        intro y hn
        refine B_X12_digest_249 hK (n252a := by omega) (kt := fun t => absurd t (by omega)) (kf := fun _ => ?_)
        refine B_X12_digest_255 hK hs (k := ?_)
        refine s_howMany hs (by omega) (fun r hr => ?_)
        refine B_X12_digest_261 hK hs (k := ?_)
        refine s_mix hs ?_
        rw [hr, e]
        exact B_X12_digest_265 hK (k := ih (y + 1) (by omega))
    exact lp 6 0 (by omega)
  -- the page
  have s5 : ∀ (J : Nat → Nat → Int) (a : Int64), FrQ I J → a = itr (plaD I) (I 44 14).toNat (itr (marD I) (I 44 8).toNat (lanD I)) → K 220 [some (vR 44), none] [] (sh, J, lH L a) (0, 0) := by
    intro J a FJ ea
    refine B_X12_digest_220 hK (k := ?_)
    have e19 : J 44 19 = I 44 19 := FJ 44 19 (by decide) (by decide)
    have e56 : J 56 = I 56 := fn_eq FJ 56 (by decide) (by decide)
    have lp : ∀ (n y : Nat), (y : Int) + n = I 44 19 → K 222 [some (vR 44), some (vI (y : Int))] [] (sh, J, lH L (itr (fun x h => mx h (I 56 x)) y a)) (0, 0) := by
      intro n
      induction n with
      | zero =>
        intro y hn
        refine B_X12_digest_222 hK hs (n227a := by omega) (n227b := by omega) (kt := fun _ => ?_) (kf := fun t => absurd (by omega) t)
        have ey : y = (I 44 19).toNat := by omega
        exact s6 J _ FJ (by rw [ey, ea])
      | succ n ih =>
        intro y hn
        refine B_X12_digest_222 hK hs (n227a := by omega) (n227b := by omega) (kt := fun t => absurd t (by omega)) (kf := fun _ => ?_)
        refine B_X12_digest_230 hK hs (b236 := by omega) (k := ?_)
        rw [Int.toNat_natCast, e56]
        refine s_mix hs ?_
        exact B_X12_digest_241 hK (k := ih (y + 1) (by omega))
    exact lp (I 44 19).toNat 0 (by omega)
  -- plans
  have s4 : ∀ (J : Nat → Nat → Int) (a : Int64), FrQ I J → a = itr (marD I) (I 44 8).toNat (lanD I) → K 103 [some (vR 44), none] [] (sh, J, lH L a) (0, 0) := by
    intro J a FJ ea
    refine B_X12_digest_103 hK (k := ?_)
    have lp : ∀ (n y : Nat) (J : Nat → Nat → Int), FrQ I J → (y : Int) + n = I 44 14 → K 105 [some (vR 44), some (vI (y : Int))] [] (sh, J, lH L (itr (plaD I) y a)) (0, 0) := by
      intro n
      induction n with
      | zero =>
        intro y J FJ hn
        have e14 : J 44 14 = I 44 14 := FJ 44 14 (by decide) (by decide)
        refine B_X12_digest_105 hK hs (n110a := by omega) (n110b := by omega) (kt := fun _ => ?_) (kf := fun t => absurd (by omega) t)
        have ey : y = (I 44 14).toNat := by omega
        exact s5 J _ FJ (by rw [ey, ea])
      | succ n ih =>
        intro y J FJ hn
        have e14 : J 44 14 = I 44 14 := FJ 44 14 (by decide) (by decide)
        have e0 : J 44 0 = I 44 0 := FJ 44 0 (by decide) (by decide)
        have e8 : J 44 8 = I 44 8 := FJ 44 8 (by decide) (by decide)
        have e52 : J 52 = I 52 := fn_eq FJ 52 (by decide) (by decide)
        have e53 : J 53 = I 53 := fn_eq FJ 53 (by decide) (by decide)
        have e54 : J 54 = I 54 := fn_eq FJ 54 (by decide) (by decide)
        have hk := (h11 y (by omega)).2.1
        refine B_X12_digest_105 hK hs (n110a := by omega) (n110b := by omega) (kt := fun t => absurd t (by omega)) (kf := fun _ => ?_)
        refine B_X12_digest_113 hK hs (b119 := by omega) (k := ?_)
        refine s_mix hs ?_
        refine B_X12_digest_124 hK hs (b130 := by omega) (k := ?_)
        refine s_mix hs ?_
        refine B_X12_digest_135 hK hs (b141 := by omega) (k := ?_)
        refine s_mix hs ?_
        rw [Int.toNat_natCast, e52, e53, e54]
        have nx : ∀ J, FrQ I J → K 105 [some (vR 44), some (vI ((y : Int) + 1))] [] (sh, J, lH L (plaD I y (itr (plaD I) y a))) (0, 0) := fun J FJ => ih (y + 1) J FJ (by omega)
        unfold plaD at nx
        have out : (I 52 y = 3 ∨ I 44 0 ≤ 0 ∨ I 44 8 ≤ 0) → K 214 [some (vR 44), some (vI (y : Int))] [] (sh, J, lH L (mxL (mxL (mxL (itr (plaD I) y a) (Int32.ofInt (I 52 y)).toInt64) (Int32.ofInt (I 53 y)).toInt64) (Int32.ofInt (I 54 y)).toInt64)) (0, 0) := fun t => by
          simp only [if_pos t] at nx
          exact B_X12_digest_214 hK (k := nx J FJ)
        refine B_X12_digest_146 hK hs (b151 := by omega) (n153a := by rw [Int.toNat_natCast, e52]; omega) (kt := fun t => ?_) (kf := fun t => ?_)
        · rw [Int.toNat_natCast, e52] at t
          exact out (Or.inl t)
        rw [Int.toNat_natCast, e52] at t
        refine B_X12_digest_156 hK hs (n160 := by omega) (kt := fun t2 => out (Or.inr (Or.inl (by omega)))) (kf := fun t2 => ?_)
        refine B_X12_digest_163 hK hs (n167 := by omega) (kt := fun t3 => out (Or.inr (Or.inr (by omega)))) (kf := fun t3 => ?_)
        have nt : ¬ (I 52 y = 3 ∨ I 44 0 ≤ 0 ∨ I 44 8 ≤ 0) := fun u => by
          rcases u with u | u | u
          · exact t u
          · omega
          · omega
        simp only [if_neg nt] at nx
        have hm0 := h9 0 (by omega)
        refine B_X12_digest_170 hK hs (k := ?_)
        refine s_loadQ (m := 0) hs h FJ (by omega) (fun J1 F1 ld => ?_)
        refine B_X12_digest_175 hK hs (k := ?_)
        refine s_layQ (m := 0) hs h F1 (by omega) (by omega) (by omega) ld (by decide) (fun J2 q2 F2 => ?_)
        obtain ⟨l, ml, pl, wl⟩ := q2.2.2.2
        refine B_X12_digest_181 hK hs (k := ?_)
        refine s_mix hs ?_
        refine B_X12_digest_190 hK hs (k := ?_)
        refine s_allOn hs ?_
        have eo : fShl 1 (J2 44 39) - 1 = vOn I 0 := by rw [q2.2.2.1.2.1]; rfl
        rw [eo]
        refine B_X12_digest_195 hK hs (k := ?_)
        rw [q2.2.2.1.1]
        refine s_flowQ hs h q2 (by decide) (by omega) (by decide) (fun J3 q3 v3 r1 r2 => ?_)
        have v4 : J3 44 54 = anV I 0 y 0 := congrArg Prod.fst v3
        refine B_X12_digest_205 hK hs (k := ?_)
        refine s_mix hs ?_
        rw [v4, ml.1, ← pl.length_eq]
        exact B_X12_digest_214 hK (k := nx J3 q3.1)
    exact lp (I 44 14).toNat 0 J FJ (by omega)
  -- marches
  have s3 : ∀ (a : Int64), a = lanD I → K 82 [some (vR 44), none] [] (sh, I, lH L a) (0, 0) := by
    intro a ea
    refine B_X12_digest_82 hK (k := ?_)
    have lp : ∀ (n y : Nat) (J : Nat → Nat → Int), FrQ I J → (y : Int) + n = I 44 8 → K 84 [some (vR 44), some (vI (y : Int))] [] (sh, J, lH L (itr (marD I) y a)) (0, 0) := by
      intro n
      induction n with
      | zero =>
        intro y J FJ hn
        have e8 : J 44 8 = I 44 8 := FJ 44 8 (by decide) (by decide)
        refine B_X12_digest_84 hK hs (n89a := by omega) (n89b := by omega) (kt := fun _ => ?_) (kf := fun t => absurd (by omega) t)
        have ey : y = (I 44 8).toNat := by omega
        exact s4 J _ FJ (by rw [ey, ea])
      | succ n ih =>
        intro y J FJ hn
        have e8 : J 44 8 = I 44 8 := FJ 44 8 (by decide) (by decide)
        refine B_X12_digest_84 hK hs (n89a := by omega) (n89b := by omega) (kt := fun t => absurd t (by omega)) (kf := fun _ => ?_)
        refine B_X12_digest_92 hK hs (k := ?_)
        refine s_mixMarch hs h FJ (by omega) (fun J1 F1 => ?_)
        exact B_X12_digest_97 hK (k := ih (y + 1) J1 F1 (by omega))
    exact lp (I 44 8).toNat 0 I Fr.rf (by omega)
  -- places
  have s2 : ∀ (a : Int64), a = (if I 44 0 ≤ 0 then 397 else itr (fun x h => mx h (lndV I x)) 5 397) → K 37 [some (vR 44), none] [] (sh, I, lH L a) (0, 0) := by
    intro a ea
    refine B_X12_digest_37 hK (k := ?_)
    have lp : ∀ (n y : Nat), (y : Int) + n = I 44 0 → K 39 [some (vR 44), some (vI (y : Int))] [] (sh, I, lH L (itr (fun p h => mx (mx h (I 45 p)) (if I 46 p = 0 then 0 else 1)) y a)) (0, 0) := by
      intro n
      induction n with
      | zero =>
        intro y hn
        refine B_X12_digest_39 hK hs (n44a := by omega) (n44b := by omega) (kt := fun _ => ?_) (kf := fun t => absurd (by omega) t)
        have ey : y = (I 44 0).toNat := by omega
        exact s3 _ (by unfold lanD; rw [ey, ea])
      | succ n ih =>
        intro y hn
        have hw := h7 y (by omega)
        refine B_X12_digest_39 hK hs (n44a := by omega) (n44b := by omega) (kt := fun t => absurd t (by omega)) (kf := fun _ => ?_)
        refine B_X12_digest_47 hK hs (b53 := by omega) (k := ?_)
        rw [Int.toNat_natCast]
        refine s_mix hs ?_
        have nx : K 39 [some (vR 44), some (vI ((y : Int) + 1))] [] (sh, I, lH L (mx (mx (itr (fun p h => mx (mx h (I 45 p)) (if I 46 p = 0 then 0 else 1)) y a) (I 45 y)) (if I 46 y = 0 then 0 else 1))) (0, 0) := ih (y + 1) (by omega)
        refine B_X12_digest_58 hK hs (b64 := by omega) (n65 := by rw [Int.toNat_natCast]; omega) (kt := fun t => ?_) (kf := fun t => ?_)
        · rw [Int.toNat_natCast] at t
          rw [if_pos t] at nx
          refine B_X12_digest_72 hK (k := ?_)
          refine B_X12_digest_73 hK hs (k := ?_)
          refine s_mix hs ?_
          exact B_X12_digest_76 hK (k := nx)
        · rw [Int.toNat_natCast] at t
          rw [if_neg t] at nx
          refine B_X12_digest_68 hK (k := ?_)
          refine B_X12_digest_73 hK hs (k := ?_)
          refine s_mix hs ?_
          exact B_X12_digest_76 hK (k := nx)
    exact lp (I 44 0).toNat 0 (by omega)
  refine B_X12_digest_0 hK hs (n11 := by omega) (kt := fun t => ?_) (kf := fun t => ?_)
  · exact s2 397 (by rw [if_pos t])
  · refine B_X12_digest_14 hK (k := ?_)
    have lp : ∀ (n y : Nat), y + n = 5 → K 16 [some (vR 44), some (vI (y : Int))] [] (sh, I, lH L (itr (fun x h => mx h (lndV I x)) y 397)) (0, 0) := by
      intro n
      induction n with
      | zero =>
        intro y hn
        refine B_X12_digest_16 hK (n18a := by omega) (kt := fun _ => ?_) (kf := fun t => absurd (by omega) t)
        have ey : y = 5 := by omega
        exact s2 _ (by rw [if_neg t, ey])
      | succ n ih =>
        intro y hn
        refine B_X12_digest_16 hK (n18a := by omega) (kt := fun t => absurd t (by omega)) (kf := fun _ => ?_)
        refine B_X12_digest_21 hK hs (k := ?_)
        refine s_landOf hs (by omega) (fun r hr => ?_)
        refine B_X12_digest_27 hK hs (k := ?_)
        refine s_mix hs ?_
        rw [hr]
        exact B_X12_digest_31 hK (k := ih (y + 1) (by omega))
    exact lp 5 0 (by omega)
