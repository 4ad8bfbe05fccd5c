/-! the class: a march is kept -/
theorem sN_put {sh : oS} {h k : Nat} {v : Option Nat} : sN (sPutR sh h k v) = sN sh := rfl
theorem sK_put {sh : oS} {h k x : Nat} {v : Option Nat} : sK (sPutR sh h k v) x = sK sh x := rfl
theorem sL_put {sh : oS} {h k x : Nat} {v : Option Nat} : sL (sPutR sh h k v) x = sL sh x := rfl
/-- one array comes, and a field of an object points to it -/
theorem arr1 {S : oS} {h k n : Nat} (hh : h < sN S) : sN (sPutR (sNew S 13 n) h k (some (sN S))) = sN S + 1 ∧ (∀ x, x < sN S → sK (sPutR (sNew S 13 n) h k (some (sN S))) x = sK S x ∧ sL (sPutR (sNew S 13 n) h k (some (sN S))) x = sL S x) ∧ (∀ x y, x < sN S → ¬ (x = h ∧ y = k) → sR (sPutR (sNew S 13 n) h k (some (sN S))) x y = sR S x y) ∧ sR (sPutR (sNew S 13 n) h k (some (sN S))) h k = some (sN S) ∧ sK (sPutR (sNew S 13 n) h k (some (sN S))) (sN S) = 13 ∧ sL (sPutR (sNew S 13 n) h k (some (sN S))) (sN S) = n :=
  ⟨rfl, fun x hx => (sEx.new (sh := S) (kd := 13) (ln := n)).2.1 x hx, fun x y hx hn => by rw [put_eq hn]; exact sR_new hx, put_at, sK_new (sh := S) (kd := 13) (ln := n), sL_new (sh := S) (kd := 13) (ln := n)⟩
theorem s_init6 {S : oS} {I : Nat → Nat → Int} {L : Nat → Nat → Int64} {Q : oQ} {h : Nat} (hk : sK S h = 6) (hh : h < sN S) (k : ∀ S' I' L', sN S' = sN S + 3 → (∀ x, x < sN S → sK S' x = sK S x ∧ sL S' x = sL S x) → (∀ x y, x < sN S → x ≠ h → sR S' x y = sR S x y) → (sR S' h 2 = some (sN S) ∧ sR S' h 3 = some (sN S + 1) ∧ sR S' h 4 = some (sN S + 2)) → ((sK S' (sN S) = 13 ∧ sL S' (sN S) = 10) ∧ (sK S' (sN S + 1) = 13 ∧ sL S' (sN S + 1) = 10) ∧ sK S' (sN S + 2) = 13 ∧ sL S' (sN S + 2) = 2) → (∀ x y, x < sN S → I' x y = I x y) → Q none (S', I', L')) : T_X6_init [vR h] (S, I, L) Q := by
  refine And.intro (Nat.le_of_ble_eq_true rfl) (fun K hK => ?_)
  obtain ⟨a1, a2, a3, a4, a5, a6⟩ := arr1 (S := S) (h := h) (k := 2) (n := 10) hh
  have i1 : ∀ x y, x < sN S → iNew S I x y = I x y := fun x y hx => iNew_lt hx
  refine B_X6_init_0 hK (kh0_0 := by rw [((sEx.new (sh := S) (kd := 13) (ln := 10)).2.1 h hh).1]; exact hk) (k := ?_)
  generalize sPutR (sNew S 13 10) h 2 (some (sN S)) = S1 at *
  generalize iNew S I = I1 at *
  generalize lNew S L = L1 at *
  obtain ⟨b1, b2, b3, b4, b5, b6⟩ := arr1 (S := S1) (h := h) (k := 3) (n := 10) (by omega)
  have i2 : ∀ x y, x < sN S1 → iNew S1 I1 x y = I1 x y := fun x y hx => iNew_lt hx
  refine B_X6_init_12 hK (kh0_0 := by rw [((sEx.new (sh := S1) (kd := 13) (ln := 10)).2.1 h (by omega)).1, (a2 h hh).1]; exact hk) (k := ?_)
  generalize sPutR (sNew S1 13 10) h 3 (some (sN S1)) = S2 at *
  generalize iNew S1 I1 = I2 at *
  generalize lNew S1 L1 = L2 at *
  obtain ⟨c1, c2, c3, c4, c5, c6⟩ := arr1 (S := S2) (h := h) (k := 4) (n := 2) (by omega)
  have i3 : ∀ x y, x < sN S2 → iNew S2 I2 x y = I2 x y := fun x y hx => iNew_lt hx
  refine B_X6_init_20 hK (kh0_0 := by rw [((sEx.new (sh := S2) (kd := 13) (ln := 2)).2.1 h (by omega)).1, (b2 h (by omega)).1, (a2 h hh).1]; exact hk) (k := ?_)
  generalize sPutR (sNew S2 13 2) h 4 (some (sN S2)) = S3 at *
  generalize iNew S2 I2 = I3 at *
  generalize lNew S2 L2 = L3 at *
  refine B_X6_init_27 hK (k := k S3 I3 L3 (by omega) (fun x hx => ⟨?_, ?_⟩) (fun x y hx hn => ?_) ⟨?_, ?_, ?_⟩ ⟨⟨?_, ?_⟩, ⟨?_, ?_⟩, ?_, ?_⟩ (fun x y hx => ?_))
  · rw [(c2 x (by omega)).1, (b2 x (by omega)).1, (a2 x hx).1]
  · rw [(c2 x (by omega)).2, (b2 x (by omega)).2, (a2 x hx).2]
  · rw [c3 x y (by omega) (by omega), b3 x y (by omega) (by omega), a3 x y hx (by omega)]
  · rw [c3 h 2 (by omega) (by omega), b3 h 2 (by omega) (by omega)]; exact a4
  · rw [c3 h 3 (by omega) (by omega), b4, a1]
  · rw [c4, b1, a1]
  · rw [(c2 _ (by omega)).1, (b2 _ (by omega)).1]; exact a5
  · rw [(c2 _ (by omega)).2, (b2 _ (by omega)).2]; exact a6
  · rw [← a1, (c2 _ (by omega)).1]; exact b5
  · rw [← a1, (c2 _ (by omega)).2]; exact b6
  · rw [show sN S + 2 = sN S2 by omega]; exact c5
  · rw [show sN S + 2 = sN S2 by omega]; exact c6
  · rw [i3 x y (by omega), i2 x y (by omega), i1 x y hx]
theorem s_init10 {S : oS} {I : Nat → Nat → Int} {L : Nat → Nat → Int64} {Q : oQ} {h : Nat} (hk : sK S h = 10) (hh : h < sN S) (k : ∀ S' I' L', sN S' = sN S + 3 → (∀ x, x < sN S → sK S' x = sK S x ∧ sL S' x = sL S x) → (∀ x y, x < sN S → x ≠ h → sR S' x y = sR S x y) → (sR S' h 2 = some (sN S) ∧ sR S' h 3 = some (sN S + 1) ∧ sR S' h 4 = some (sN S + 2)) → ((sK S' (sN S) = 13 ∧ sL S' (sN S) = 6) ∧ (sK S' (sN S + 1) = 13 ∧ sL S' (sN S + 1) = 6) ∧ sK S' (sN S + 2) = 13 ∧ sL S' (sN S + 2) = 6) → (∀ x y, x < sN S → x ≠ h → I' x y = I x y) → I' h 0 = 0 ∧ I' h 1 = 0 → Q none (S', I', L')) : T_X10_init [vR h] (S, I, L) Q := by
  refine And.intro (Nat.le_of_ble_eq_true rfl) (fun K hK => ?_)
  refine B_X10_init_0 hK (k := ?_)
  refine s_init0 (by rw [hk]; decide) ?_
  have i0 : ∀ x y, x ≠ h → (u2 (u2 I h 0 0) h 1 0) x y = I x y := fun x y hx => by rw [uN hx, uN hx]
  have i00 : (u2 (u2 I h 0 0) h 1 0) h 0 = 0 := by rw [uK (by decide), uA]
  have i01 : (u2 (u2 I h 0 0) h 1 0) h 1 = 0 := uA
  generalize u2 (u2 I h 0 0) h 1 0 = I0 at *
  obtain ⟨a1, a2, a3, a4, a5, a6⟩ := arr1 (S := S) (h := h) (k := 2) (n := 6) hh
  have i1 : ∀ x y, x < sN S → iNew S I0 x y = I0 x y := fun x y hx => iNew_lt hx
  refine B_X10_init_6 hK (kh0_0 := by rw [((sEx.new (sh := S) (kd := 13) (ln := 6)).2.1 h hh).1]; exact hk) (k := ?_)
  generalize sPutR (sNew S 13 6) h 2 (some (sN S)) = S1 at *
  generalize iNew S I0 = I1 at *
  generalize lNew S L = L1 at *
  obtain ⟨b1, b2, b3, b4, b5, b6⟩ := arr1 (S := S1) (h := h) (k := 3) (n := 6) (by omega)
  have i2 : ∀ x y, x < sN S1 → iNew S1 I1 x y = I1 x y := fun x y hx => iNew_lt hx
  refine B_X10_init_14 hK (kh0_0 := by rw [((sEx.new (sh := S1) (kd := 13) (ln := 6)).2.1 h (by omega)).1, (a2 h hh).1]; exact hk) (k := ?_)
  generalize sPutR (sNew S1 13 6) h 3 (some (sN S1)) = S2 at *
  generalize iNew S1 I1 = I2 at *
  generalize lNew S1 L1 = L2 at *
  obtain ⟨c1, c2, c3, c4, c5, c6⟩ := arr1 (S := S2) (h := h) (k := 4) (n := 6) (by omega)
  have i3 : ∀ x y, x < sN S2 → iNew S2 I2 x y = I2 x y := fun x y hx => iNew_lt hx
  refine B_X10_init_22 hK (kh0_0 := by rw [((sEx.new (sh := S2) (kd := 13) (ln := 6)).2.1 h (by omega)).1, (b2 h (by omega)).1, (a2 h hh).1]; exact hk) (k := ?_)
  generalize sPutR (sNew S2 13 6) h 4 (some (sN S2)) = S3 at *
  generalize iNew S2 I2 = I3 at *
  generalize lNew S2 L2 = L3 at *
  refine B_X10_init_30 hK (k := k S3 I3 L3 (by omega) (fun x hx => ⟨?_, ?_⟩) (fun x y hx hn => ?_) ⟨?_, ?_, ?_⟩ ⟨⟨?_, ?_⟩, ⟨?_, ?_⟩, ?_, ?_⟩ (fun x y hx hn => ?_) ⟨?_, ?_⟩)
  · rw [(c2 x (by omega)).1, (b2 x (by omega)).1, (a2 x hx).1]
  · rw [(c2 x (by omega)).2, (b2 x (by omega)).2, (a2 x hx).2]
  · rw [c3 x y (by omega) (by omega), b3 x y (by omega) (by omega), a3 x y hx (by omega)]
  · rw [c3 h 2 (by omega) (by omega), b3 h 2 (by omega) (by omega)]; exact a4
  · rw [c3 h 3 (by omega) (by omega), b4, a1]
  · rw [c4, b1, a1]
  · rw [(c2 _ (by omega)).1, (b2 _ (by omega)).1]; exact a5
  · rw [(c2 _ (by omega)).2, (b2 _ (by omega)).2]; exact a6
  · rw [← a1, (c2 _ (by omega)).1]; exact b5
  · rw [← a1, (c2 _ (by omega)).2]; exact b6
  · rw [show sN S + 2 = sN S2 by omega]; exact c5
  · rw [show sN S + 2 = sN S2 by omega]; exact c6
  · rw [i3 x y (by omega), i2 x y (by omega), i1 x y hx]; exact i0 x y hn
  · rw [i3 h 0 (by omega), i2 h 0 (by omega), i1 h 0 hh]; exact i00
  · rw [i3 h 1 (by omega), i2 h 1 (by omega), i1 h 1 hh]; exact i01
theorem mOK.addM {I Z : Nat → Nat → Int} {c : Nat} (ok : mOK I) (hc : I 44 8 = (c : Int)) (hc4 : c < 4) (z8 : Z 44 8 = (c : Int) + 1) (q : ∀ x y, (x = 44 ∧ (y ≤ 6 ∨ y = 14)) ∨ (45 ≤ x ∧ x ≤ 46) ∨ (52 ≤ x ∧ x ≤ 55) → Z x y = I x y) (m2 : ∀ m : Nat, m < c → (Z 47 m = I 47 m ∧ Z 50 m = I 50 m) ∧ (∀ d : Nat, (d : Int) < I 47 m → Z 48 (10 * m + d) = I 48 (10 * m + d) ∧ Z 49 (10 * m + d) = I 49 (10 * m + d)) ∧ ∀ x : Nat, (x : Int) < I 50 m → Z 51 (2 * m + x) = I 51 (2 * m + x)) (om : (1 ≤ Z 47 c ∧ Z 47 c ≤ 10) ∧ (0 ≤ Z 50 c ∧ Z 50 c ≤ 2) ∧ (∀ d : Nat, (d : Int) < Z 47 c → (-1 ≤ Z 48 (10 * c + d) ∧ Z 48 (10 * c + d) ≤ 2) ∧ 0 ≤ Z 49 (10 * c + d) ∧ Z 49 (10 * c + d) ≤ 99) ∧ ∀ x : Nat, (x : Int) < Z 50 c → 1 ≤ Z 51 (2 * c + x) ∧ Z 51 (2 * c + x) ≤ 9) : mOK Z := by
  have e : rfV (fun h k => if (h = 44 ∧ k = 8) ∨ (47 ≤ h ∧ h ≤ 51) then Z h k else I h k) Z := rfV.of (fun x y t => by
    by_cases u : (x = 44 ∧ y = 8) ∨ (47 ≤ x ∧ x ≤ 51)
    · rw [if_pos u]
    · rw [if_neg u]
      exact q x y (by omega))
  rw [e.ok]
  obtain ⟨h1, h2, h3, h4, h5, h6, h7, h8, h9, h10, h11⟩ := ok
  refine ⟨h1, h2, h3, h4, h5, h6, h7, ?_, fun m hm => ?_, h10, h11⟩
  · show 0 ≤ Z 44 8 ∧ Z 44 8 ≤ 4
    omega
  · have hm : (m : Int) < Z 44 8 := hm
    show (1 ≤ Z 47 m ∧ Z 47 m ≤ 10) ∧ (0 ≤ Z 50 m ∧ Z 50 m ≤ 2) ∧ (∀ d : Nat, (d : Int) < Z 47 m → (-1 ≤ Z 48 (10 * m + d) ∧ Z 48 (10 * m + d) ≤ 2) ∧ 0 ≤ Z 49 (10 * m + d) ∧ Z 49 (10 * m + d) ≤ 99) ∧ ∀ x : Nat, (x : Int) < Z 50 m → 1 ≤ Z 51 (2 * m + x) ∧ Z 51 (2 * m + x) ≤ 9
    by_cases t : m = c
    · rw [t]; exact om
    · obtain ⟨⟨w1, w2⟩, w3, w4⟩ := m2 m (by omega)
      obtain ⟨g1, g2, g3, g4⟩ := h9 m (by omega)
      rw [w1, w2]
      refine ⟨g1, g2, fun d hd => ?_, fun x hx => ?_⟩
      · rw [(w3 d hd).1, (w3 d hd).2]
        exact g3 d hd
      · rw [w4 x hx]
        exact g4 x hx
set_option maxHeartbeats 2000000 in
theorem c_march {sh : oS} {I : Nat → Nat → Int} {L : Nat → Nat → Int64} {Q : oQ} (hs : Sh sh) {b : Nat} {a : Int} (R : Rel sh I b a)
    (k1 : ∀ J (n : Nat) (s : maS), Rel sh J b a → rfF I J → rdEnd maStep (ma0 I) (I 56) (I 44 19).toNat n s → ¬ ((n : Int) = I 44 19 ∧ maE s) → Q (some (vI (-103))) (sh, J, L))
    (k2 : ∀ J (n : Nat) (s : maS), Rel sh J b a → rfF I J → rdEnd maStep (ma0 I) (I 56) (I 44 19).toNat n s → ((n : Int) = I 44 19 ∧ maE s) → I 44 8 = 4 → Q (some (vI (-104))) (sh, J, L))
    (k3 : ∀ sh' J L' (n : Nat) (s : maS), Sh sh' → rfF I J → rdEnd maStep (ma0 I) (I 56) (I 44 19).toNat n s → ((n : Int) = I 44 19 ∧ maE s) → I 44 8 ≠ 4 → (∀ Z, marJ J Z s → maOK s → Rel sh' Z b a) → Q (some (vI (I 44 8))) (sh', J, L')) : T_X11_march [vR 0] (sh, I, L) Q := by
  refine And.intro (Nat.le_of_ble_eq_true rfl) (fun K hK => ?_)
  obtain ⟨hn, ht, R⟩ := R
  have hN77 := hs.2.2.2
  have s4 := R.1.2.2.2.1
  have pb := R.pgB
  obtain ⟨x1, x2, x3, x4, x5, x6, x7, x8, x9, x10⟩ := id R.2.2.2.2.2.2.2.2
  have hn2 := x3.2
  have ht2 := x5.2
  refine B_X11_march_0 hK hs (r0_6 := x1) (Aq0_6 := x3.1) (k := ?_)
  refine s_rdMarch hs x3 pb (s0 := ma0 I) rfl (fun J n s r F j2 hE hr => ?_)
  obtain ⟨R2, E2⟩ := R.rd (J := J) (fun x k h1 h2 _ _ => F x k (by simp; omega) (by unfold scr at h1; simp <;> omega))
  refine B_X11_march_11 hK (n11 := by omega) (kt := fun z => ?_) (kf := fun z => ?_)
  rotate_left
  · refine B_X11_march_14 hK (k := k1 J n s ⟨hn, ht, R2⟩ E2 hE (fun u => ?_))
    rcases hr with ⟨h, -⟩ | ⟨-, h⟩
    · exact z (by omega)
    · exact h ⟨by omega, u.2⟩
  rcases hr with ⟨-, ⟨hn1, hE1⟩, l0, l1, lm, lt⟩ | ⟨h, -⟩
  rotate_left
  · exact absurd h z
  have o8 := R.1.1.2.2.2.2.2.2.2.1
  obtain ⟨c, hc⟩ := Int.eq_ofNat_of_zero_le o8.1
  have c8 : J 0 8 = (c : Int) := by rw [R2.2.2.2.1.1, E2 44 8 (by decide) (by decide)]; exact hc
  refine B_X11_march_17 hK hs (n22a := by omega) (kt := fun z2 => ?_) (kf := fun z2 => ?_)
  rotate_left
  · exact B_X11_march_25 hK (k := k2 J n s ⟨hn, ht, R2⟩ E2 hE ⟨by omega, hE1⟩ (by omega))
  refine B_X11_march_28 hK hs (r0_6 := x1) (b40 := by omega) (Aq0_6 := x3.1) (k := ?_)
  rw [c8, Int.toNat_natCast]
  have exA : sEx sh (sPutR sh 9 c (some hn)) := sEx.put (Or.inl rfl)
  have p9 : ∀ y, y ≠ c → sR (sPutR sh 9 c (some hn)) 9 y = sR sh 9 y := fun y hy => put_eq (by omega)
  have p9c : sR (sPutR sh 9 c (some hn)) 9 c = some hn := put_at
  have pO : ∀ x y, x ≠ 9 → sR (sPutR sh 9 c (some hn)) x y = sR sh x y := fun x y hx => put_eq (by omega)
  have nA : sN (sPutR sh 9 c (some hn)) = sN sh := rfl
  generalize sPutR sh 9 c (some hn) = sA at *
  obtain ⟨N, hN⟩ : ∃ N, N = sN sh := ⟨_, rfl⟩
  refine B_X11_march_41 hK (k := ?_)
  have exB : sEx sA (sNew sA 6 0) := sEx.new
  have kB : sK (sNew sA 6 0) (sN sA) = 6 := sK_new
  have nB : sN (sNew sA 6 0) = sN sA + 1 := rfl
  have rB : ∀ x y, x < sN sA → sR (sNew sA 6 0) x y = sR sA x y := fun x y hx => sR_new hx
  have iB : ∀ x y, x < sN sA → iNew sA J x y = J x y := fun x y hx => iNew_lt hx
  generalize sNew sA 6 0 = sB at *
  generalize iNew sA J = JB at *
  generalize lNew sA L = LB
  refine s_init6 kB (by omega) (fun S' I' L' n1 k3' r3 rh kh i3 => ?_)
  have eNA : sN sA = N := by omega
  rw [eNA] at kB rB iB rh r3 ⊢
  have nB' : sN sB = N + 1 := by omega
  rw [nB'] at n1 k3' r3 rh kh i3
  have ex3 : sEx sh S' := by
    have a1 := exA.t exB
    refine ⟨by omega, fun x hx => ⟨?_, ?_⟩, fun x y hx h9 h10 h0 => ?_⟩
    · rw [(k3' x (by omega)).1, (a1.2.1 x hx).1]
    · rw [(k3' x (by omega)).2, (a1.2.1 x hx).2]
    · rw [r3 x y (by omega) (by omega), a1.2.2 x y hx h9 h10 h0]
  refine B_X11_march_49 hK (hs.ex ex3) (k := ?_)
  have ex4 : sEx S' (sPutR S' 0 6 (some N)) := sEx.put (Or.inr (Or.inr ⟨rfl, Or.inl rfl⟩))
  have q06 : sR (sPutR S' 0 6 (some N)) 0 6 = some N := put_at
  have q4 : ∀ x y, ¬ (x = 0 ∧ y = 6) → sR (sPutR S' 0 6 (some N)) x y = sR S' x y := fun x y h => put_eq h
  have k4 : ∀ x, sK (sPutR S' 0 6 (some N)) x = sK S' x ∧ sL (sPutR S' 0 6 (some N)) x = sL S' x := fun x => ⟨rfl, rfl⟩
  have n4 : sN (sPutR S' 0 6 (some N)) = sN S' := rfl
  generalize sPutR S' 0 6 (some N) = S4 at *
  have ex5 := ex3.t ex4
  have hs4 := hs.ex ex5
  refine B_X11_march_52 hK hs4 (k := ?_)
  have iI : ∀ x y, x < N → I' x y = J x y := fun x y hx => by rw [i3 x y (by omega), iB x y hx]
  have e8 : I' 0 8 = (c : Int) := by rw [iI 0 8 (by omega)]; exact c8
  rw [e8, show (c : Int) + 1 - 1 = (c : Int) by omega]
  have jq : ∀ x y, x < N → ¬ (x = 1 ∧ y = 1) → ¬ (x = 0 ∧ y = 8) → (u2 (u2 I' 1 1 0) 0 8 ((c : Int) + 1)) x y = J x y := fun x y hx h1 h2 => by
    rw [uF (by omega), uF (by omega)]
    exact iI x y hx
  have j11 : (u2 (u2 I' 1 1 0) 0 8 ((c : Int) + 1)) 1 1 = 0 := by rw [uN (by decide), uA]
  have j08 : (u2 (u2 I' 1 1 0) 0 8 ((c : Int) + 1)) 0 8 = (c : Int) + 1 := uA
  generalize u2 (u2 I' 1 1 0) 0 8 ((c : Int) + 1) = J4 at *
  have E4 : rfF I J4 := fun x y h1 h2 => by rw [jq x y (by omega) (by omega) (by omega)]; exact E2 x y h1 h2
  rw [← hc]
  refine k3 S4 J4 L' n s hs4 E4 hE ⟨by omega, hE1⟩ (by omega) (fun Z hZ sok => ⟨N, ht, ?_⟩)
  obtain ⟨FZ, z8, z19, z47, z50, z48, z49, z51⟩ := hZ
  obtain ⟨v1, v2, v3, -, -, -, -, -, -, v10, v11⟩ := sok
  have c4 : J4 44 8 = (c : Int) := by rw [E4 44 8 (by decide) (by decide)]; exact hc
  have cJ : J 44 8 = (c : Int) := by rw [E2 44 8 (by decide) (by decide)]; exact hc
  rw [c4, Int.toNat_natCast] at z47 z50 z48 z49 z51
  rw [c4] at z8
  obtain ⟨⟨s1, s2, s3, s44, s5, s6⟩, r2, r3', -, -, r6, r7, r8, rn⟩ := id R2
  have hE2 : 0 < s.2.1 := hE1.1
  have ZC : ∀ x y, x < N → (x ≤ 43 ∨ 77 ≤ x) → ¬ (x = 1 ∧ y = 1) → ¬ (x = 0 ∧ y = 8) → Z x y = J x y := fun x y hx h h1 h2 => by
    rw [FZ x y (by simp <;> omega) (by simp <;> omega)]
    exact jq x y hx h1 h2
  have Z44 : ∀ y, y ≠ 8 → y ≠ 19 → y < 24 → Z 44 y = J 44 y := fun y h1 h2 h3 => by
    rw [FZ 44 y (by simp) (by simp <;> omega)]
    exact jq 44 y (by omega) (by omega) (by omega)
  have ZM : ∀ x y, (45 ≤ x ∧ x ≤ 46) ∨ (52 ≤ x ∧ x ≤ 57) → Z x y = J x y := fun x y h => by
    rw [FZ x y (by simp <;> omega) (by simp <;> omega)]
    exact jq x y (by omega) (by omega) (by omega)
  have w47 : Z 47 c = s.2.1 := by rw [z47]; simp [up]
  have w50 : Z 50 c = s.2.2.2.1 := by rw [z50]; simp [up]
  have w48 : ∀ d : Nat, (d : Int) < s.2.1 → Z 48 (10 * c + d) = s.2.2.2.2.2.1 d ∧ Z 49 (10 * c + d) = s.2.2.2.2.2.2.1 d := fun d hd => by
    rw [z48, z49, if_pos (by omega), if_pos (by omega), show 10 * c + d - 10 * c = d by omega]
    exact ⟨rfl, rfl⟩
  have w51 : ∀ x : Nat, (x : Int) < s.2.2.2.1 → Z 51 (2 * c + x) = s.2.2.2.2.2.2.2 x := fun x hx => by
    rw [z51, if_pos (by omega), show 2 * c + x - 2 * c = x by omega]
  have m2 : ∀ m : Nat, m < c → (Z 47 m = J 47 m ∧ Z 50 m = J 50 m) ∧ (∀ d : Nat, (d : Int) < J 47 m → Z 48 (10 * m + d) = J 48 (10 * m + d) ∧ Z 49 (10 * m + d) = J 49 (10 * m + d)) ∧ ∀ x : Nat, (x : Int) < J 50 m → Z 51 (2 * m + x) = J 51 (2 * m + x) := fun m hm => by
    have om := s1.2.2.2.2.2.2.2.2.1 m (by omega)
    refine ⟨⟨?_, ?_⟩, fun d hd => ⟨?_, ?_⟩, fun x hx => ?_⟩
    · rw [z47]
      have : m ≠ c := by omega
      simp [up, this]
      exact jq 47 m (by omega) (by omega) (by omega)
    · rw [z50]
      have : m ≠ c := by omega
      simp [up, this]
      exact jq 50 m (by omega) (by omega) (by omega)
    · rw [z48, if_neg (by omega)]
      exact jq 48 _ (by omega) (by omega) (by omega)
    · rw [z49, if_neg (by omega)]
      exact jq 49 _ (by omega) (by omega) (by omega)
    · rw [z51, if_neg (by omega)]
      exact jq 51 _ (by omega) (by omega) (by omega)
  have okZ : mOK Z := s1.addM cJ (by omega) z8 (fun x y h => by
    by_cases t : x = 44
    · rw [t]; exact Z44 y (by omega) (by omega) (by omega)
    · exact ZM x y (by omega)) m2 (by
    rw [w47, w50]
    exact ⟨by omega, by omega, fun d hd => by rw [(w48 d hd).1, (w48 d hd).2]; exact v10 d hd, fun x hx => by rw [w51 x hx]; exact v11 x hx⟩)
  have r9 : ∀ y, y ≠ c → sR S4 9 y = sR sh 9 y := fun y hy => by
    rw [q4 9 y (by omega), r3 9 y (by omega) (by omega), rB 9 y (by omega)]
    exact p9 y hy
  have rO : ∀ x y, x < N → x ≠ 9 → ¬ (x = 0 ∧ y = 6) → sR S4 x y = sR sh x y := fun x y hx h9 h0 => by
    rw [q4 x y h0, r3 x y (by omega) (by omega), rB x y hx]
    exact pO x y h9
  refine R2.grow ex5 ⟨okZ, ?_, ?_, by rw [z19]; decide, fun x hx => by rw [z19] at hx; omega, ?_⟩ ⟨by rw [FZ 1 1 (by simp) (by simp), j11, z19], fun x hx => by rw [z19] at hx; omega⟩ ?_ ?_ ?_ ?_ ?_ ⟨q06, by rw [rO 0 7 (by omega) (by omega) (by omega)]; exact x2, ⟨⟨?_, ?_, ?_, ?_, ⟨?_, ?_⟩, ⟨?_, ?_⟩, ?_, ?_⟩, by omega⟩, by omega, x5.ex ex5 x8, Or.inr (by omega), by omega, by omega, ?_, ?_⟩ (fun x y h h2 => ZC x y (by omega) (by omega) (by omega) (by omega)) (by rw [FZ 0 8 (by simp) (by simp), j08, z8]) (fun m hm => ⟨r9 m (by omega), m2 m (by omega)⟩) (fun m hm => ?_) ?_ (fun p hp => ⟨rO 10 p (by omega) (by omega) (by omega), ⟨ZM 52 p (by omega), ZM 53 p (by omega), ZM 54 p (by omega)⟩, fun x hx => ZM 55 _ (by omega)⟩) (fun p hp => Or.inl (by rw [Z44 14 (by decide) (by decide) (by decide)] at hp; exact hp)) (Or.inr (by omega)) (Or.inl rfl)
  · rw [Z44 3 (by decide) (by decide) (by decide), Z44 5 (by decide) (by decide) (by decide)]
    exact ⟨s2.1, s2.2.1, fun p hp => by rw [ZM 45 p (by omega)]; exact s2.2.2 p hp⟩
  · rw [Z44 21 (by decide) (by decide) (by decide)]; exact s3
  · rw [Z44 7 (by decide) (by decide) (by decide)]; exact s6
  · unfold rLd
    rw [ZC 3 0 (by omega) (by omega) (by omega) (by omega), ZC 3 3 (by omega) (by omega) (by omega) (by omega), ZC 3 4 (by omega) (by omega) (by omega) (by omega), ZC 3 5 (by omega) (by omega) (by omega) (by omega), ZC 3 6 (by omega) (by omega) (by omega) (by omega), Z44 0 (by decide) (by decide) (by decide), Z44 3 (by decide) (by decide) (by decide), Z44 4 (by decide) (by decide) (by decide), Z44 5 (by decide) (by decide) (by decide), Z44 6 (by decide) (by decide) (by decide)]
    refine ⟨r3'.1, r3'.2.1, r3'.2.2.1, r3'.2.2.2.1, r3'.2.2.2.2.1, fun p hp => ?_⟩
    rw [ZC 4 p (by omega) (by omega) (by omega) (by omega), ZC 5 p (by omega) (by omega) (by omega) (by omega), ZM 45 p (by omega), ZM 46 p (by omega)]
    exact r3'.2.2.2.2.2 p hp
  · exact r6.add s1 (fun x => ⟨ZC 41 x (by omega) (by omega) (by omega) (by omega), ZC 42 x (by omega) (by omega) (by omega) (by omega), ZC 43 x (by omega) (by omega) (by omega) (by omega)⟩) (by rw [Z44 14 (by decide) (by decide) (by decide)]; exact Int.le_refl _) (by omega) ⟨Z44 0 (by decide) (by decide) (by decide), Z44 3 (by decide) (by decide) (by decide), Z44 4 (by decide) (by decide) (by decide), Z44 5 (by decide) (by decide) (by decide)⟩ (fun x => ⟨ZM 45 x (by omega), ZM 46 x (by omega)⟩) (fun m hm => (m2 m (by omega)).1) (fun m d hm hd => (m2 m (by omega)).2.1 d hd) (fun p hp => ⟨⟨ZM 52 p (by omega), ZM 53 p (by omega), ZM 54 p (by omega)⟩, fun x hx => ZM 55 _ (by omega)⟩)
  · rw [ZC 0 10 (by omega) (by omega) (by omega) (by omega), Z44 7 (by decide) (by decide) (by decide)]; exact r7.1
  · rw [ZC 0 11 (by omega) (by omega) (by omega) (by omega), Z44 21 (by decide) (by decide) (by decide)]; exact r7.2
  · unfold rIm
    rw [Z44 0 (by decide) (by decide) (by decide), Z44 7 (by decide) (by decide) (by decide), Z44 22 (by decide) (by decide) (by decide), ZC 0 13 (by omega) (by omega) (by omega) (by omega), Z44 23 (by decide) (by decide) (by decide)]
    refine ⟨r8.1, ?_⟩
    rcases r8.2 with z | ⟨z1, z2, z3, z4⟩
    · exact Or.inl z
    · refine Or.inr ⟨z1, z2, z3, fun w p hp => ?_⟩
      rw [ZC 23 p (by omega) (by omega) (by omega) (by omega), ZM 57 p (by omega)]
      exact z4 w p hp
  · rw [(k4 N).1, (k3' N (by omega)).1]; exact kB
  · rw [q4 N 2 (by omega)]; exact rh.1
  · rw [q4 N 3 (by omega)]; exact rh.2.1
  · rw [q4 N 4 (by omega)]; exact rh.2.2
  · rw [(k4 _).1]; exact kh.1.1
  · rw [(k4 _).2]; exact kh.1.2
  · rw [(k4 _).1]; exact kh.2.1.1
  · rw [(k4 _).2]; exact kh.2.1.2
  · rw [(k4 _).1]; exact kh.2.2.1
  · rw [(k4 _).2]; exact kh.2.2.2
  · rw [ZC ht 0 (by omega) (by omega) (by omega) (by omega)]; exact rn.2.2.2.2.2.2.2.2.1
  · rw [ZC ht 1 (by omega) (by omega) (by omega) (by omega)]; exact rn.2.2.2.2.2.2.2.2.2
  · rw [z8] at hm
    by_cases t : m = c
    · subst t
      refine Or.inr ⟨hn, ?_, ⟨x3.ex ex5 x7, x4, ?_, ?_, fun d hd => ?_, fun x hx => ?_⟩, Or.inl (by omega), x6, by omega⟩
      · rw [q4 9 m (by omega), r3 9 m (by omega) (by omega), rB 9 m (by omega)]
        exact p9c
      · rw [ZC hn 0 (by omega) (by omega) (by omega) (by omega), w47]; exact l0
      · rw [ZC hn 1 (by omega) (by omega) (by omega) (by omega), w50]; exact l1
      · rw [w47] at hd
        rw [ZC (hn + 1) d (by omega) (by omega) (by omega) (by omega), ZC (hn + 2) d (by omega) (by omega) (by omega) (by omega), (w48 d hd).1, (w48 d hd).2]
        exact lm d hd
      · rw [w50] at hx
        rw [ZC (hn + 3) x (by omega) (by omega) (by omega) (by omega), w51 x hx]
        exact lt x hx
    · exact Or.inl (by omega)
  · rw [ZC 0 9 (by omega) (by omega) (by omega) (by omega), Z44 14 (by decide) (by decide) (by decide)]; exact R2.2.2.2.2.1.1
