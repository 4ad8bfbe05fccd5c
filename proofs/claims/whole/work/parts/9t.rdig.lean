/-! the class answers: digest -/
theorem mx_d {h : Int64} {v : Int} : gAdd (gMul 31 h) (Int32.ofInt v).toInt64 = mx h v := rfl
theorem itr_s {f : Nat → Int64 → Int64} {n : Nat} {h : Int64} : itr f (n + 1) h = f n (itr f n h) := rfl
theorem s_landInto {sh : oS} {I : Nat → Nat → Int} {L : Nat → Nat → Int64} {Q : oQ} (hs : Sh sh) {b : Nat} {a : Int} (R : Rel sh I b a) (k : Q (some (vL (lanD I))) (sh, I, L)) : T_X11_landInto [vR 0, vL 397] (sh, I, L) Q := by
  refine And.intro (Nat.le_of_ble_eq_true rfl) (fun K hK => ?_)
  obtain ⟨hn, ht, R0⟩ := id R
  obtain ⟨d0, -, -, -, -, dd⟩ := id R0.2.2.1
  have o0 := R0.1.1.1
  have o7 := R0.1.1.2.2.2.2.2.2.1
  unfold lanD at k
  refine B_X11_landInto_0 hK hs (n9 := by omega) (kt := fun z => ?_) (kf := fun z => ?_)
  rotate_left
  · rw [show (I 44 0).toNat = 0 by omega, if_pos (by omega)] at k
    exact B_X11_landInto_12 hK (k := k)
  rw [if_neg (show ¬ I 44 0 ≤ 0 by omega)] at k
  obtain ⟨P, hP⟩ := Int.eq_ofNat_of_zero_le (show 0 ≤ I 44 0 by omega)
  rw [show (I 44 0).toNat = P by omega] at k
  generalize hG : (fun (p : Nat) (h : Int64) => mx (mx h (I 45 p)) (if I 46 p = 0 then 0 else 1)) = G at k
  generalize hA : itr (fun (x : Nat) (h : Int64) => mx h (lndV I x)) 5 397 = A at k
  have lp2 : ∀ (d y : Nat), y + d = P → K 46 [some (vR 0), none, none, some (vL (itr G y A)), none, some (vI (y : Int))] [] (sh, I, L) (0, 0) := by
    intro d
    induction d with
    | zero =>
      intro y hy
      refine B_X11_landInto_46 hK hs (n55a := by omega) (n55b := by omega) (kt := fun _ => ?_) (kf := fun t => absurd (by omega) t)
      rw [show P = y by omega] at k
      exact B_X11_landInto_100 hK (k := k)
    | succ d ih =>
      intro y hy
      refine B_X11_landInto_46 hK hs (n55a := by omega) (n55b := by omega) (kt := fun t => absurd t (by omega)) (kf := fun _ => ?_)
      refine B_X11_landInto_58 hK hs (b72 := by omega) (k := ?_)
      rw [Int.toNat_natCast, (dd y (by omega)).1, (dd y (by omega)).2]
      have g := ih (y + 1) (by omega)
      have eg : itr G (y + 1) A = mx (mx (itr G y A) (I 45 y)) (I 46 y) := by
        show G y (itr G y A) = _
        rw [← hG]
        dsimp only
        rcases o7 y (by omega) with e | e <;> rw [e]
        · rw [if_pos rfl]
        · rw [if_neg (by decide)]
      rw [eg] at g
      exact g
  have lp1 : ∀ (d y : Nat), y + d = 5 → K 17 [some (vR 0), none, none, some (vL (itr (fun (x : Nat) (h : Int64) => mx h (lndV I x)) y 397)), none, some (vI (y : Int))] [] (sh, I, L) (0, 0) := by
    intro d
    induction d with
    | zero =>
      intro y hy
      refine B_X11_landInto_17 hK (n20a := by omega) (kt := fun _ => ?_) (kf := fun t => absurd (by omega) t)
      rw [show y = 5 by omega, hA]
      exact B_X11_landInto_43 hK (k := lp2 P 0 (by omega))
    | succ d ih =>
      intro y hy
      refine B_X11_landInto_17 hK (n20a := by omega) (kt := fun t => absurd t (by omega)) (kf := fun _ => ?_)
      refine B_X11_landInto_23 hK hs (k := ?_)
      refine c_landTold hs R (by omega) ?_
      have ev : ltV I (y : Int) = lndV I (y : Int) := by
        unfold ltV
        rw [if_neg (by omega), if_pos (by omega)]
      rw [ev]
      exact B_X11_landInto_34 hK (k := ih (y + 1) (by omega))
  exact B_X11_landInto_14 hK (k := lp1 5 0 (by decide))
theorem mi_col {sh : oS} {J : Nat → Nat → Int} {L : Nat → Nat → Int64} {Q : oQ} {K : oK} (hs : Sh sh) (hK : oCl tb_X11_marchInto Q K) {h D : Nat} {cf : Nat → Int} {B : Int64} (A : MA sh h) (hD : D ≤ 10) (j0 : J h 0 = (D : Int)) (col : ∀ d, d < D → J 29 d = cf d) (k : Q (some (vL (itr (fun d h => mx h (cf d)) D B))) (sh, J, L)) : ∀ (d y : Nat), y + d = D → K 118 [some (vR 0), none, none, some (vR h), some (vL (itr (fun d h => mx h (cf d)) y B)), none, some (vI (y : Int))] [] (sh, J, L) (0, 0) := by
  intro d
  induction d with
  | zero =>
    intro y hy
    refine B_X11_marchInto_118 hK (Ah3 := A.1) (n124a := by omega) (n124b := by omega) (kt := fun _ => ?_) (kf := fun t => absurd (by omega) t)
    rw [show y = D by omega]
    exact B_X11_marchInto_153 hK (k := k)
  | succ d ih =>
    intro y hy
    refine B_X11_marchInto_118 hK (Ah3 := A.1) (n124a := by omega) (n124b := by omega) (kt := fun t => absurd t (by omega)) (kf := fun _ => ?_)
    refine B_X11_marchInto_127 hK hs (b142 := by omega) (k := ?_)
    rw [Int.toNat_natCast, col y (by omega), mx_d]
    have g := ih (y + 1) (by omega)
    rw [itr_s] at g
    exact g
set_option maxHeartbeats 1000000 in
set_option maxRecDepth 4000 in
theorem s_marchInto {sh : oS} {I J : Nat → Nat → Int} {L : Nat → Nat → Int64} {Q : oQ} (hs : Sh sh) {b hn ht m h : Nat} {a : Int} {w : Int64} (R : RelX sh J b hn ht a) (e : rfE I J) (hm : (m : Int) < I 44 8) (s9 : sR sh 9 m = some h) (k : ∀ J2, FrY J J2 → RelX sh J2 b hn ht a → Q (some (vL (marD I m w))) (sh, J2, L)) : T_X11_marchInto [vR 0, vL w, vR h] (sh, J, L) Q := by
  refine And.intro (Nat.le_of_ble_eq_true rfl) (fun K hK => ?_)
  obtain ⟨h', s9', mr, -⟩ := R.2.2.2.1.2 m (by rw [e.at (by omega)]; exact hm)
  have hh' : h' = h := by rw [s9] at s9'; exact (Option.some.inj s9').symm
  subst hh'
  have ok : mOK I := by rw [← e.ok]; exact R.1.1
  have om := ok.2.2.2.2.2.2.2.2.1 m hm
  have o0 := ok.1
  have mm := mr.mat2 e
  obtain ⟨m0, m1, md⟩ := id mm
  have hh := mr.1.2
  have e30 : J 3 0 = I 44 0 := by rw [R.2.2.1.1]; exact e.at (by omega)
  obtain ⟨hM, D1, eD⟩ := mm.has ok hm
  obtain ⟨D, hD⟩ := Int.eq_ofNat_of_zero_le (show 0 ≤ I 47 m by omega)
  obtain ⟨C, hC⟩ := Int.eq_ofNat_of_zero_le (show 0 ≤ I 50 m by omega)
  unfold marD marD2 at k
  rw [show (I 47 m).toNat = D by omega, show (I 50 m).toNat = C by omega] at k
  have mt : ∀ c : Nat, c < C → J (h' + 3) c = I 51 (2 * m + c) := fun c hc => by
    rw [mr.2.2.2.2.2 c (by rw [e.at (by omega)]; omega)]
    exact e.at (by omega)
  have mv : ∀ d : Nat, d < D → J (h' + 1) d = vM I m d := fun d hd => by
    unfold vM
    rw [if_pos (by omega)]
    exact (md d (by omega)).1
  generalize hA : itr (fun d h => mx h (vM I m d)) D (mx w (I 47 m)) = A at k
  generalize hB : itr (fun x h => mx h (I 51 (2 * m + x))) C A = B at k
  have lp2 : ∀ (d y : Nat), y + d = C → K 51 [some (vR 0), none, none, some (vR h'), some (vL (itr (fun x h => mx h (I 51 (2 * m + x))) y A)), none, some (vI (y : Int))] [] (sh, J, L) (0, 0) := by
    intro d
    induction d with
    | zero =>
      intro y hy
      refine B_X11_marchInto_51 hK (Ah3 := mr.1.1) (n57a := by omega) (n57b := by omega) (kt := fun _ => ?_) (kf := fun t => absurd (by omega) t)
      rw [show y = C by omega, hB]
      refine B_X11_marchInto_83 hK hs (n90 := by omega) (kt := fun t => ?_) (kf := fun t => ?_)
      · have kk := k J Fr.rf R
        rw [if_pos (by omega)] at kk
        exact B_X11_marchInto_153 hK (k := kk)
      · rw [if_neg (by omega)] at k
        refine B_X11_marchInto_93 hK hs (Ah3 := mr.1.1) (k := ?_)
        refine s_wayOn mr.1 ?_
        rw [show fShl 1 (J h' 1) - 1 = vOn I m by rw [m1]; rfl]
        refine B_X11_marchInto_105 hK hs (As0 := mr.1.1) (k := ?_)
        refine s_cwalk hs mr.1 hM (by omega) (fun J2 F v => ?_)
        rw [show (I 47 m).toNat = D by omega] at v
        have F2 : FrY J J2 := F.mono (by decide) (by decide)
        have R2 := R.y F2 (R.2.2.2.2.2.1.eq F2.rf (fun x => ⟨F 41 x (by simp) (by simp), F 42 x (by simp) (by simp), F 43 x (by simp) (by simp)⟩))
        have kk := k J2 F2 R2
        have j0 : J2 h' 0 = I 47 m := by rw [F h' 0 (by simp <;> omega) (by simp)]; exact m0
        have col : ∀ d, d < D → J2 29 d = colP (I 44 0) (vS I m) (vOn I m) d := fun d hd => by
          rw [v d hd, e30]
          refine colP_cg (D := D) (fun x hx => ?_) hd
          unfold vS
          rw [if_pos (by omega)]
          exact (md x (by omega)).2
        have t := mi_col hs hK mr.1 (by omega) (by omega) col kk D 0 (by omega)
        rw [itr_0] at t
        exact B_X11_marchInto_115 hK (k := t)
    | succ d ih =>
      intro y hy
      refine B_X11_marchInto_51 hK (Ah3 := mr.1.1) (n57a := by omega) (n57b := by omega) (kt := fun t => absurd t (by omega)) (kf := fun _ => ?_)
      refine B_X11_marchInto_60 hK (Ah3 := mr.1.1) (b72 := by omega) (k := ?_)
      rw [Int.toNat_natCast, mt y (by omega), mx_d]
      have g := ih (y + 1) (by omega)
      rw [itr_s] at g
      exact g
  have lp1 : ∀ (d y : Nat), y + d = D → K 16 [some (vR 0), none, none, some (vR h'), some (vL (itr (fun d h => mx h (vM I m d)) y (mx w (I 47 m)))), none, some (vI (y : Int))] [] (sh, J, L) (0, 0) := by
    intro d
    induction d with
    | zero =>
      intro y hy
      refine B_X11_marchInto_16 hK (Ah3 := mr.1.1) (n22a := by omega) (n22b := by omega) (kt := fun _ => ?_) (kf := fun t => absurd (by omega) t)
      rw [show y = D by omega, hA]
      exact B_X11_marchInto_48 hK (k := lp2 C 0 (by omega))
    | succ d ih =>
      intro y hy
      refine B_X11_marchInto_16 hK (Ah3 := mr.1.1) (n22a := by omega) (n22b := by omega) (kt := fun t => absurd t (by omega)) (kf := fun _ => ?_)
      refine B_X11_marchInto_25 hK (Ah3 := mr.1.1) (b37 := by omega) (k := ?_)
      rw [Int.toNat_natCast, mv y (by omega), mx_d]
      have g := ih (y + 1) (by omega)
      rw [itr_s] at g
      exact g
  refine B_X11_marchInto_0 hK (Ah3 := mr.1.1) (k := ?_)
  rw [m0, mx_d]
  exact lp1 D 0 (by omega)
theorem s_planInto {sh : oS} {J : Nat → Nat → Int} {L : Nat → Nat → Int64} {Q : oQ} {g : Nat} {kind ov n : Int} {T : Nat → Int} {w : Int64} (pk : pK sh J g kind ov n T) (k : Q (some (vL (mx (mx (mx w kind) ov) n))) (sh, J, L)) : T_X11_planInto [vL w, vR g] (sh, J, L) Q := by
  refine And.intro (Nat.le_of_ble_eq_true rfl) (fun K hK => ?_)
  have fin : ∀ x, x = kind → K 9 [none, none, some (vR g), none, none] [vI x, vL (gMul 31 w)] (sh, J, L) (0, 0) := fun x hx => by
    refine B_X11_planInto_9 hK (kh2_0 := pk.kb) (k := ?_)
    rw [pk.2.1, pk.2.2.1, hx]
    exact k
  refine B_X11_planInto_0 hK (kb := pk.kb) (k0 := fun e => ?_) (k1 := fun e => ?_) (k3 := fun e => ?_) (k5 := fun e => ?_) (k10 := fun e => ?_)
  · refine And.intro (Nat.le_of_ble_eq_true rfl) (fun K2 hK2 => ?_)
    exact B_X0_kind_0 hK2 (k := fin 0 (by rcases pk.2.2.2 with ⟨c1, c2, -⟩ | ⟨c1, c2, -⟩ | ⟨c1, c2, -⟩ | ⟨c1, c2, -⟩ | ⟨c1, c2, -⟩ <;> omega))
  · refine And.intro (Nat.le_of_ble_eq_true rfl) (fun K2 hK2 => ?_)
    exact B_X1_kind_0 hK2 (k := fin 3 (by rcases pk.2.2.2 with ⟨c1, c2, -⟩ | ⟨c1, c2, -⟩ | ⟨c1, c2, -⟩ | ⟨c1, c2, -⟩ | ⟨c1, c2, -⟩ <;> omega))
  · refine And.intro (Nat.le_of_ble_eq_true rfl) (fun K2 hK2 => ?_)
    exact B_X3_kind_0 hK2 (k := fin 1 (by rcases pk.2.2.2 with ⟨c1, c2, -⟩ | ⟨c1, c2, -⟩ | ⟨c1, c2, -⟩ | ⟨c1, c2, -⟩ | ⟨c1, c2, -⟩ <;> omega))
  · refine And.intro (Nat.le_of_ble_eq_true rfl) (fun K2 hK2 => ?_)
    exact B_X5_kind_0 hK2 (k := fin 2 (by rcases pk.2.2.2 with ⟨c1, c2, -⟩ | ⟨c1, c2, -⟩ | ⟨c1, c2, -⟩ | ⟨c1, c2, -⟩ | ⟨c1, c2, -⟩ <;> omega))
  · refine And.intro (Nat.le_of_ble_eq_true rfl) (fun K2 hK2 => ?_)
    exact B_X10_kind_0 hK2 (k := fin 4 (by rcases pk.2.2.2 with ⟨c1, c2, -⟩ | ⟨c1, c2, -⟩ | ⟨c1, c2, -⟩ | ⟨c1, c2, -⟩ | ⟨c1, c2, -⟩ <;> omega))
set_option maxHeartbeats 2000000 in
set_option maxRecDepth 4000 in
theorem c_digest {sh : oS} {I : Nat → Nat → Int} {L : Nat → Nat → Int64} {Q : oQ} (hs : Sh sh) {b : Nat} (hb : b ≤ 10000) (R : Rel sh I b 0) (k : ∀ J, Rel sh J b 0 → rfE I J → Q (some (vL (digV I))) (sh, J, L)) : T_X11_digest [vR 0] (sh, I, L) Q := by
  refine And.intro (Nat.le_of_ble_eq_true rfl) (fun K hK => ?_)
  obtain ⟨hn, ht, R0⟩ := id R
  have ok := R0.1.1
  have o0 := ok.1
  have o8 := ok.2.2.2.2.2.2.2.1
  have o10 := ok.2.2.2.2.2.2.2.2.2.1
  have s4 := R0.1.2.2.2.1
  obtain ⟨M, hM⟩ := Int.eq_ofNat_of_zero_le o8.1
  obtain ⟨N, hN⟩ := Int.eq_ofNat_of_zero_le o10.1
  obtain ⟨C, hC⟩ := Int.eq_ofNat_of_zero_le s4.1
  unfold digV at k
  rw [show (I 44 8).toNat = M by omega, show (I 44 14).toNat = N by omega, show (I 44 19).toNat = C by omega] at k
  generalize hA : itr (marD I) M (lanD I) = A at k
  generalize hB : itr (plaD I) N A = B at k
  generalize hD : itr (fun x h => mx h (I 56 x)) C B = D at k
  -- the counts
  have lp4 : ∀ (d y : Nat) (J : Nat → Nat → Int), y + d = 6 → rfE I J → RelX sh J b hn ht 0 → K 182 [some (vR 0), some (vL (itr (fun x h => mx h (hmV I x)) y D)), none, some (vI (y : Int))] [] (sh, J, L) (0, 0) := by
    intro d
    induction d with
    | zero =>
      intro y J hy E RJ
      refine B_X11_digest_182 hK (n184a := by omega) (kt := fun _ => ?_) (kf := fun t => absurd (by omega) t)
      rw [show y = 6 by omega]
      exact B_X11_digest_206 hK (k := k J ⟨hn, ht, RJ⟩ E)
    | succ d ih =>
      intro y J hy E RJ
      refine B_X11_digest_182 hK (n184a := by omega) (kt := fun t => absurd t (by omega)) (kf := fun _ => ?_)
      refine B_X11_digest_187 hK hs (k := ?_)
      refine c_count hs ⟨hn, ht, RJ⟩ (by omega) ?_
      have ev : hmV J (y : Int) = hmV I (y : Int) := by
        unfold hmV
        rw [E.at (a := 44) (k := 0) (by omega), E.at (a := 44) (k := 8) (by omega), E.at (a := 44) (k := 14) (by omega), E.at (a := 44) (k := 19) (by omega), E.at (a := 44) (k := 7) (by omega), E.at (a := 44) (k := 21) (by omega)]
      rw [ev]
      exact B_X11_digest_197 hK (k := ih (y + 1) J (by omega) E RJ)
  -- the letters
  have lp3 : ∀ (d y : Nat) (J : Nat → Nat → Int), y + d = C → rfE I J → RelX sh J b hn ht 0 → K 146 [some (vR 0), some (vL (itr (fun x h => mx h (I 56 x)) y B)), none, some (vI (y : Int))] [] (sh, J, L) (0, 0) := by
    intro d
    induction d with
    | zero =>
      intro y J hy E RJ
      have e11 : J 1 1 = (C : Int) := by rw [RJ.2.1.1, E.at (by omega)]; exact hC
      refine B_X11_digest_146 hK hs (n154a := by omega) (n154b := by omega) (kt := fun _ => ?_) (kf := fun t => absurd (by omega) t)
      rw [show y = C by omega, hD]
      exact B_X11_digest_180 hK (k := lp4 6 0 J (by decide) E RJ)
    | succ d ih =>
      intro y J hy E RJ
      have e11 : J 1 1 = (C : Int) := by rw [RJ.2.1.1, E.at (by omega)]; exact hC
      have e2 : J 2 y = I 56 y := by
        rw [RJ.2.1.2 y (by rw [E.at (by omega)]; omega)]
        exact E.at (by omega)
      refine B_X11_digest_146 hK hs (n154a := by omega) (n154b := by omega) (kt := fun t => absurd t (by omega)) (kf := fun _ => ?_)
      refine B_X11_digest_157 hK hs (b170 := by omega) (k := ?_)
      rw [Int.toNat_natCast, e2]
      exact ih (y + 1) J (by omega) E RJ
  -- the plans
  have lp2 : ∀ (d y : Nat) (J : Nat → Nat → Int), y + d = N → rfE I J → RelX sh J b hn ht 0 → K 38 [some (vR 0), some (vL (itr (plaD I) y A)), none, some (vI (y : Int))] [] (sh, J, L) (0, 0) := by
    intro d
    induction d with
    | zero =>
      intro y J hy E RJ
      have e9 : J 0 9 = (N : Int) := by rw [RJ.2.2.2.2.1.1, E.at (by omega)]; exact hN
      refine B_X11_digest_38 hK hs (n43a := by omega) (n43b := by omega) (kt := fun _ => ?_) (kf := fun t => absurd (by omega) t)
      rw [show y = N by omega, hB]
      exact B_X11_digest_144 hK (k := lp3 C 0 J (by omega) E RJ)
    | succ d ih =>
      intro y J hy E RJ
      have e9 : J 0 9 = (N : Int) := by rw [RJ.2.2.2.2.1.1, E.at (by omega)]; exact hN
      have e8 : J 0 8 = (M : Int) := by rw [RJ.2.2.2.1.1, E.at (by omega)]; exact hM
      have e30 : J 3 0 = I 44 0 := by rw [RJ.2.2.1.1]; exact E.at (by omega)
      have ty : (y : Int).toNat = y := Int.toNat_natCast y
      refine B_X11_digest_38 hK hs (n43a := by omega) (n43b := by omega) (kt := fun t => absurd t (by omega)) (kf := fun _ => ?_)
      obtain ⟨g, s10, pr, -⟩ := RJ.2.2.2.2.1.2 y (by rw [E.at (by omega)]; omega)
      have pk := pr.k2 E
      have nx := ih (y + 1)
      have es : itr (plaD I) (y + 1) A = plaD I y (itr (plaD I) y A) := rfl
      rw [es] at nx
      generalize itr (plaD I) y A = W at nx ⊢
      unfold plaD at nx
      refine B_X11_digest_46 hK hs (b52 := by omega) (r52 := by rw [ty]; exact s10) (k := ?_)
      refine s_planInto pk ?_
      have sk : (I 52 y = 3 ∨ I 44 0 ≤ 0 ∨ I 44 8 ≤ 0) → K 138 [some (vR 0), some (vL (mx (mx (mx W (I 52 y)) (I 53 y)) (I 54 y))), none, some (vI (y : Int))] [] (sh, J, L) (0, 0) := fun t => by
        rw [if_pos t] at nx
        exact B_X11_digest_138 hK (k := nx J (by omega) E RJ)
      refine B_X11_digest_56 hK hs (n64 := by omega) (kt := fun t => sk (by omega)) (kf := fun t => ?_)
      refine B_X11_digest_67 hK hs (n71 := by omega) (kt := fun t2 => sk (by omega)) (kf := fun t2 => ?_)
      have kd : sK sh g = 1 ↔ I 52 y = 3 := by
        rcases pk.2.2.2 with ⟨c1, c2, -⟩ | ⟨c1, c2, -⟩ | ⟨c1, c2, -⟩ | ⟨c1, c2, -⟩ | ⟨c1, c2, -⟩ <;> omega
      refine B_X11_digest_74 hK hs (b79 := by omega) (r79 := by rw [ty]; exact s10) (ky := fun hy2 => ?_) (kn := fun hn2 => ?_) (kb := pk.kb)
      · have hy2 : sK sh g = 1 := by simpa using hy2
        refine hK.1 83 _ [vI 1] (sh, J, L) (0, 0) ?_
        exact And.intro (by decide) (And.intro (fun _ => sk (Or.inl (kd.1 hy2))) (fun (z : ¬ ¬ (1 : Int) = 0) => absurd (show ¬ (1 : Int) = 0 by decide) z))
      · have hy2 : sK sh g = 0 ∨ sK sh g = 3 ∨ sK sh g = 5 ∨ sK sh g = 10 := by simpa using hn2
        have n3 : ¬ I 52 y = 3 := fun u => by have := kd.2 u; omega
        rw [if_neg (by omega)] at nx
        refine hK.1 83 _ [vI 0] (sh, J, L) (0, 0) ?_
        refine And.intro (by decide) (And.intro (fun (z : ¬ (0 : Int) = 0) => absurd rfl z) (fun _ => ?_))
        refine B_X11_digest_86 hK hs (k := ?_)
        have hm0 : ((0 : Nat) : Int) < I 44 8 := by omega
        have h0 : I 44 0 ≠ 0 := by omega
        have om := ok.2.2.2.2.2.2.2.2.1 0 hm0
        have on := vOn_bd om.2.1
        refine r_pitch (m := 0) hs RJ (by rw [E.at (by omega)]; omega) (by rw [E.at (by omega)]; exact hm0) (by rw [E.at (by omega)]; exact h0) (fun J1 F1 k1 q1 c1 => ?_)
        have R1 := RJ.y F1 k1
        have E1 := E.t F1.rf
        rw [E.raw] at c1
        have ln : J1 25 3 = ((pRaw I 0 y 0).length : Int) := by
          obtain ⟨l2, c2, pm, -⟩ := c1
          rw [c2.1, pm.length_eq]
        obtain ⟨h, s9, mr, -⟩ := R1.2.2.2.1.2 0 (by rw [E1.at (by omega)]; exact hm0)
        refine B_X11_digest_92 hK hs (r127 := s9) (Aq127 := mr.1.1) (k := ?_)
        refine s_wayOn mr.1 ?_
        rw [ln, show fShl 1 (J1 h 1) - 1 = vOn I 0 by rw [mr.2.2.2.1, E1.at (by omega)]; rfl]
        refine B_X11_digest_131 hK hs (k := ?_)
        refine r_solved (m := 0) hs R1 (by rw [E1.at (by omega)]; omega) (by rw [E1.at (by omega)]; exact hm0) (by rw [E1.at (by omega)]; exact h0) (by rw [E1.on]; omega) (fun J2 F2 R2 _ v2 r2 => ?_)
        have v3 : J2 41 (16 * y + 4 * 0 + (vOn I 0).toNat) = anV I 0 y 0 := by
          rw [E1.ev, E1.at (a := 47) (by omega)] at v2
          exact congrArg Prod.fst v2
        refine B_X11_digest_134 hK hs (b134 := by omega) (k := ?_)
        rw [Int.toNat_natCast, v3]
        exact B_X11_digest_138 hK (k := nx J2 (by omega) (E1.t F2.rf) R2)
  -- the marches
  have lp1 : ∀ (d y : Nat) (J : Nat → Nat → Int), y + d = M → rfE I J → RelX sh J b hn ht 0 → K 10 [some (vR 0), some (vL (itr (marD I) y (lanD I))), none, some (vI (y : Int))] [] (sh, J, L) (0, 0) := by
    intro d
    induction d with
    | zero =>
      intro y J hy E RJ
      have e8 : J 0 8 = (M : Int) := by rw [RJ.2.2.2.1.1, E.at (by omega)]; exact hM
      refine B_X11_digest_10 hK hs (n15a := by omega) (n15b := by omega) (kt := fun _ => ?_) (kf := fun t => absurd (by omega) t)
      rw [show y = M by omega, hA]
      exact B_X11_digest_36 hK (k := lp2 N 0 J (by omega) E RJ)
    | succ d ih =>
      intro y J hy E RJ
      have e8 : J 0 8 = (M : Int) := by rw [RJ.2.2.2.1.1, E.at (by omega)]; exact hM
      have ty : (y : Int).toNat = y := Int.toNat_natCast y
      refine B_X11_digest_10 hK hs (n15a := by omega) (n15b := by omega) (kt := fun t => absurd t (by omega)) (kf := fun _ => ?_)
      obtain ⟨h, s9, -⟩ := RJ.2.2.2.1.2 y (by rw [E.at (by omega)]; omega)
      refine B_X11_digest_18 hK hs (b25 := by omega) (r25 := by rw [ty]; exact s9) (k := ?_)
      refine s_marchInto (m := y) hs RJ E (by omega) s9 (fun J2 F2 R2 => ?_)
      exact B_X11_digest_29 hK (k := ih (y + 1) J2 (by omega) (E.t F2.rf) R2)
  refine B_X11_digest_0 hK hs (k := ?_)
  refine s_landInto hs R ?_
  exact B_X11_digest_7 hK (k := lp1 M 0 I (by omega) rfl R0)
