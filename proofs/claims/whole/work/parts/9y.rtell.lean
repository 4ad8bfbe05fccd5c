/-! the class: a told plan is kept -/
set_option maxHeartbeats 2000000 in
theorem c_tell {sh : oS} {I : Nat → Nat → Int} {L : Nat → Nat → Int64} {Q : oQ} (hs : Sh sh) {b : Nat} {a : Int} (R : Rel sh I b a)
    (k1 : ∀ J (n : Nat) (s : seS), Rel sh J b a → rfF I J → rdEnd seStep (se0 I) (I 56) (I 44 19).toNat n s → ¬ ((n : Int) = I 44 19 ∧ seE s) → Q (some (vI (-103))) (sh, J, L))
    (k2 : ∀ J (n : Nat) (s : seS), Rel sh J b a → rfF I J → rdEnd seStep (se0 I) (I 56) (I 44 19).toNat n s → ((n : Int) = I 44 19 ∧ seE s) → I 44 14 = 8 → Q (some (vI (-104))) (sh, J, L))
    (k3 : ∀ sh' J L' (n : Nat) (s : seS), Sh sh' → rfF I J → rdEnd seStep (se0 I) (I 56) (I 44 19).toNat n s → ((n : Int) = I 44 19 ∧ seE s) → I 44 14 ≠ 8 → (∀ Z, telJ J Z s → seOK s → Rel sh' Z b a) → Q (some (vI (I 44 14))) (sh', J, L')) : T_X11_tell [vR 0] (sh, I, L) Q := by
  refine And.intro (Nat.le_of_ble_eq_true rfl) (fun K hK => ?_)
  obtain ⟨hn, ht, R⟩ := R
  have hN77 := hs.2.2.2
  have s4 := R.1.2.2.2.1
  have pb := R.pgB
  obtain ⟨x1, x2, x3, x4, x5, x6, x7, x8, x9, x10⟩ := id R.2.2.2.2.2.2.2.2
  have hn2 := x3.2
  have ht2 := x5.2
  refine B_X11_tell_0 hK hs (r0_7 := x2) (Aq0_7 := x5.1) (k := ?_)
  refine s_rdTold hs x5 pb (s0 := se0 I) rfl (fun J n s r F t0 t1 j2 hE hr => ?_)
  obtain ⟨R2, E2⟩ := R.rd (J := J) (fun x k h1 _ h3 h4 => by
    by_cases z : x = ht
    · have : k = 0 ∨ k = 1 := by omega
      rcases this with u | u <;> rw [z, u]
      · exact t0
      · exact t1
    · exact F x k (by simp; omega) (by unfold scr at h1; simp <;> omega))
  refine B_X11_tell_11 hK (n11 := by omega) (kt := fun z => ?_) (kf := fun z => ?_)
  rotate_left
  · refine B_X11_tell_14 hK (k := k1 J n s ⟨hn, ht, R2⟩ E2 hE (fun u => ?_))
    rcases hr with ⟨h, -⟩ | ⟨-, h⟩
    · exact z (by omega)
    · exact h ⟨by omega, u.2⟩
  rcases hr with ⟨-, ⟨hn1, hE1⟩, l5, ls⟩ | ⟨h, -⟩
  rotate_left
  · exact absurd h z
  have o14 := R.1.1.2.2.2.2.2.2.2.2.2.1
  obtain ⟨c, hc⟩ := Int.eq_ofNat_of_zero_le o14.1
  have c9 : J 0 9 = (c : Int) := by rw [R2.2.2.2.2.1.1, E2 44 14 (by decide) (by decide)]; exact hc
  refine B_X11_tell_17 hK hs (r0_7 := x2) (k := ?_)
  refine s_added hs c9 (by omega) (by rw [x5.1.1]; decide) (fun e8 => ?_) (fun l8 => ?_)
  · refine B_X11_tell_25 hK (n27 := by decide) (kt := fun _ => ?_) (kf := fun u => absurd (by decide) u)
    exact B_X11_tell_49 hK (gle := by decide) (k := k2 J n s ⟨hn, ht, R2⟩ E2 hE ⟨by omega, hE1⟩ (by omega))
  refine B_X11_tell_25 hK (n27 := by omega) (kt := fun u => absurd u (by omega)) (kf := fun _ => ?_)
  have exA : sEx sh (sPutR sh 10 c (some ht)) := sEx.put (Or.inr (Or.inl rfl))
  have p10 : ∀ y, y ≠ c → sR (sPutR sh 10 c (some ht)) 10 y = sR sh 10 y := fun y hy => put_eq (by omega)
  have p10c : sR (sPutR sh 10 c (some ht)) 10 c = some ht := put_at
  have pO : ∀ x y, x ≠ 10 → sR (sPutR sh 10 c (some ht)) x y = sR sh x y := fun x y hx => put_eq (by omega)
  have nA : sN (sPutR sh 10 c (some ht)) = sN sh := rfl
  have jA : ∀ x y, ¬ (x = 0 ∧ y = 9) → (u2 J 0 9 ((c : Int) + 1)) x y = J x y := fun x y h => uF (by omega)
  have jA9 : (u2 J 0 9 ((c : Int) + 1)) 0 9 = (c : Int) + 1 := uA
  generalize sPutR sh 10 c (some ht) = sA at *
  generalize u2 J 0 9 ((c : Int) + 1) = JA at *
  obtain ⟨N, hN⟩ : ∃ N, N = sN sh := ⟨_, rfl⟩
  refine B_X11_tell_30 hK (k := ?_)
  have exB : sEx sA (sNew sA 10 0) := sEx.new
  have kB : sK (sNew sA 10 0) (sN sA) = 10 := sK_new
  have nB : sN (sNew sA 10 0) = sN sA + 1 := rfl
  have rB : ∀ x y, x < sN sA → sR (sNew sA 10 0) x y = sR sA x y := fun x y hx => sR_new hx
  have iB : ∀ x y, x < sN sA → iNew sA JA x y = JA x y := fun x y hx => iNew_lt hx
  generalize sNew sA 10 0 = sB at *
  generalize iNew sA JA = JB at *
  generalize lNew sA L = LB
  refine s_init10 kB (by omega) (fun S' I' L' n1 k3' r3 rh kh i3 ih => ?_)
  have eNA : sN sA = N := by omega
  rw [eNA] at kB rB iB rh r3 i3 ih ⊢
  have nB' : sN sB = N + 1 := by omega
  rw [nB'] at n1 k3' r3 rh kh i3
  have ex3 : sEx sh S' := by
    have a1 := exA.t exB
    refine ⟨by omega, fun x hx => ⟨?_, ?_⟩, fun x y hx h9 h10 h0 => ?_⟩
    · rw [(k3' x (by omega)).1, (a1.2.1 x hx).1]
    · rw [(k3' x (by omega)).2, (a1.2.1 x hx).2]
    · rw [r3 x y (by omega) (by omega), a1.2.2 x y hx h9 h10 h0]
  refine B_X11_tell_38 hK (hs.ex ex3) (k := ?_)
  have ex4 : sEx S' (sPutR S' 0 7 (some N)) := sEx.put (Or.inr (Or.inr ⟨rfl, Or.inr rfl⟩))
  have q07 : sR (sPutR S' 0 7 (some N)) 0 7 = some N := put_at
  have q4 : ∀ x y, ¬ (x = 0 ∧ y = 7) → sR (sPutR S' 0 7 (some N)) x y = sR S' x y := fun x y h => put_eq h
  have k4 : ∀ x, sK (sPutR S' 0 7 (some N)) x = sK S' x ∧ sL (sPutR S' 0 7 (some N)) x = sL S' x := fun x => ⟨rfl, rfl⟩
  have n4 : sN (sPutR S' 0 7 (some N)) = sN S' := rfl
  generalize sPutR S' 0 7 (some N) = S4 at *
  have ex5 := ex3.t ex4
  have hs4 := hs.ex ex5
  refine B_X11_tell_41 hK hs4 (k := ?_)
  refine B_X11_tell_49 hK (gle := by decide) (k := ?_)
  have iI : ∀ x y, x < N → ¬ (x = 0 ∧ y = 9) → I' x y = J x y := fun x y hx h => by rw [i3 x y (by omega) (by omega), iB x y hx]; exact jA x y h
  have i09 : I' 0 9 = (c : Int) + 1 := by rw [i3 0 9 (by omega) (by omega), iB 0 9 (by omega)]; exact jA9
  have jq : ∀ x y, x < N → ¬ (x = 1 ∧ y = 1) → ¬ (x = 0 ∧ y = 9) → (u2 I' 1 1 0) x y = J x y := fun x y hx h1 h2 => by
    rw [uF (by omega)]
    exact iI x y hx h2
  have j11 : (u2 I' 1 1 0) 1 1 = 0 := uA
  have j09 : (u2 I' 1 1 0) 0 9 = (c : Int) + 1 := by rw [uN (by decide)]; exact i09
  have jN : (u2 I' 1 1 0) N 0 = 0 ∧ (u2 I' 1 1 0) N 1 = 0 := by rw [uN (by omega), uN (by omega)]; exact ih
  generalize u2 I' 1 1 0 = J4 at *
  have E4 : rfF I J4 := fun x y h1 h2 => by rw [jq x y (by omega) (by omega) (by omega)]; exact E2 x y h1 h2
  rw [← hc]
  refine k3 S4 J4 L' n s hs4 E4 hE ⟨by omega, hE1⟩ (by omega) (fun Z hZ sok => ⟨hn, N, ?_⟩)
  obtain ⟨FZ, z14, z19, z52, z53, z54, z55⟩ := hZ
  obtain ⟨v1, v2, v3, v4, v5, -⟩ := sok
  have c4 : J4 44 14 = (c : Int) := by rw [E4 44 14 (by decide) (by decide)]; exact hc
  have cJ : J 44 14 = (c : Int) := by rw [E2 44 14 (by decide) (by decide)]; exact hc
  rw [c4, Int.toNat_natCast] at z52 z53 z54 z55
  rw [c4] at z14
  obtain ⟨⟨s1, s2, s3, s44, s5, s6⟩, r2, r3', -, -, r6, r7, r8, rn⟩ := id R2
  have ZC : ∀ x y, x < N → (x ≤ 43 ∨ 77 ≤ x) → ¬ (x = 1 ∧ y = 1) → ¬ (x = 0 ∧ y = 9) → Z x y = J x y := fun x y hx h h1 h2 => by
    rw [FZ x y (by simp <;> omega) (by simp <;> omega)]
    exact jq x y hx h1 h2
  have Z44 : ∀ y, y ≠ 14 → y ≠ 19 → y < 24 → Z 44 y = J 44 y := fun y h1 h2 h3 => by
    rw [FZ 44 y (by simp) (by simp <;> omega)]
    exact jq 44 y (by omega) (by omega) (by omega)
  have ZM : ∀ x y, (45 ≤ x ∧ x ≤ 51) ∨ (56 ≤ x ∧ x ≤ 57) → Z x y = J x y := fun x y h => by
    rw [FZ x y (by simp <;> omega) (by simp <;> omega)]
    exact jq x y (by omega) (by omega) (by omega)
  have w52 : Z 52 c = 4 := by rw [z52]; simp [up]
  have w53 : Z 53 c = 0 := by rw [z53]; simp [up]
  have w54 : Z 54 c = 0 := by rw [z54]; simp [up]
  have w55 : ∀ x, x < 18 → Z 55 (18 * c + x) = if (x : Int) < 3 * s.2.1 then s.2.2 x else -1 := fun x hx => by
    rw [z55, if_pos (by omega), show 18 * c + x - 18 * c = x by omega]
  have p2 : ∀ p : Nat, p < c → (Z 52 p = J 52 p ∧ Z 53 p = J 53 p ∧ Z 54 p = J 54 p) ∧ ∀ x, x < 18 → Z 55 (18 * p + x) = J 55 (18 * p + x) := fun p hp => by
    have pc : p ≠ c := by omega
    refine ⟨⟨?_, ?_, ?_⟩, fun x hx => ?_⟩
    · rw [z52]; simp [up, pc]; exact jq 52 p (by omega) (by omega) (by omega)
    · rw [z53]; simp [up, pc]; exact jq 53 p (by omega) (by omega) (by omega)
    · rw [z54]; simp [up, pc]; exact jq 54 p (by omega) (by omega) (by omega)
    · rw [z55, if_neg (by omega)]; exact jq 55 _ (by omega) (by omega) (by omega)
  have okZ : mOK Z := s1.addP cJ l8 z14 (fun x y h => by
    by_cases t : x = 44
    · rw [t]; exact Z44 y (by omega) (by omega) (by omega)
    · exact ZM x y (by omega)) p2 (by
    rw [w52, w53, w54]
    refine ⟨by decide, by decide, by decide, fun u => by omega, fun u => by omega, fun _ j hj => ?_⟩
    dsimp only
    rw [w55 (3 * j) (by omega), w55 (3 * j + 1) (by omega), w55 (3 * j + 2) (by omega)]
    by_cases t : (j : Int) < s.2.1
    · have := v5 j t
      rw [if_pos (by omega), if_pos (by omega), if_pos (by omega)]
      exact ⟨by omega, fun _ => ⟨by omega, by omega⟩⟩
    · rw [if_neg (by omega)]
      exact ⟨by decide, fun u => absurd rfl u⟩)
  have r10 : ∀ y, y ≠ c → sR S4 10 y = sR sh 10 y := fun y hy => by
    rw [q4 10 y (by omega), r3 10 y (by omega) (by omega), rB 10 y (by omega)]
    exact p10 y hy
  have rO : ∀ x y, x < N → x ≠ 10 → ¬ (x = 0 ∧ y = 7) → sR S4 x y = sR sh x y := fun x y hx h9 h0 => by
    rw [q4 x y h0, r3 x y (by omega) (by omega), rB x y hx]
    exact pO x y h9
  refine R2.grow ex5 ⟨okZ, ?_, ?_, by rw [z19]; decide, fun x hx => by rw [z19] at hx; omega, ?_⟩ ⟨by rw [FZ 1 1 (by simp) (by simp), j11, z19], fun x hx => by rw [z19] at hx; omega⟩ ?_ ?_ ?_ ?_ ?_ ⟨by rw [rO 0 6 (by omega) (by omega) (by omega)]; exact x1, q07, x3.ex ex5 x7, x4, ⟨⟨?_, ?_, ?_, ?_, ⟨?_, ?_⟩, ⟨?_, ?_⟩, ?_, ?_⟩, by omega⟩, Or.inl (by omega), by omega, by omega, ?_, ?_⟩ (fun x y h h2 => ZC x y (by omega) (by omega) (by omega) (by omega)) ?_ (fun m hm => ⟨rO 9 m (by omega) (by omega) (by omega), ⟨ZM 47 m (by omega), ZM 50 m (by omega)⟩, fun d hd => ⟨ZM 48 _ (by omega), ZM 49 _ (by omega)⟩, fun x hx => ZM 51 _ (by omega)⟩) (fun m hm => Or.inl (by rw [Z44 8 (by decide) (by decide) (by decide)] at hm; exact hm)) (by rw [FZ 0 9 (by simp) (by simp), j09, z14]) (fun p hp => ⟨r10 p (by omega), p2 p (by omega)⟩) (fun p hp => ?_) (Or.inl rfl) (Or.inr (by omega))
  · rw [Z44 3 (by decide) (by decide) (by decide), Z44 5 (by decide) (by decide) (by decide)]
    exact ⟨s2.1, s2.2.1, fun p hp => by rw [ZM 45 p (by omega)]; exact s2.2.2 p hp⟩
  · rw [Z44 21 (by decide) (by decide) (by decide)]; exact s3
  · rw [Z44 7 (by decide) (by decide) (by decide)]; exact s6
  · unfold rLd
    rw [ZC 3 0 (by omega) (by omega) (by omega) (by omega), ZC 3 3 (by omega) (by omega) (by omega) (by omega), ZC 3 4 (by omega) (by omega) (by omega) (by omega), ZC 3 5 (by omega) (by omega) (by omega) (by omega), ZC 3 6 (by omega) (by omega) (by omega) (by omega), Z44 0 (by decide) (by decide) (by decide), Z44 3 (by decide) (by decide) (by decide), Z44 4 (by decide) (by decide) (by decide), Z44 5 (by decide) (by decide) (by decide), Z44 6 (by decide) (by decide) (by decide)]
    refine ⟨r3'.1, r3'.2.1, r3'.2.2.1, r3'.2.2.2.1, r3'.2.2.2.2.1, fun p hp => ?_⟩
    rw [ZC 4 p (by omega) (by omega) (by omega) (by omega), ZC 5 p (by omega) (by omega) (by omega) (by omega), ZM 45 p (by omega), ZM 46 p (by omega)]
    exact r3'.2.2.2.2.2 p hp
  · exact r6.add s1 (fun x => ⟨ZC 41 x (by omega) (by omega) (by omega) (by omega), ZC 42 x (by omega) (by omega) (by omega) (by omega), ZC 43 x (by omega) (by omega) (by omega) (by omega)⟩) (by omega) (by rw [Z44 8 (by decide) (by decide) (by decide)]; exact Int.le_refl _) ⟨Z44 0 (by decide) (by decide) (by decide), Z44 3 (by decide) (by decide) (by decide), Z44 4 (by decide) (by decide) (by decide), Z44 5 (by decide) (by decide) (by decide)⟩ (fun x => ⟨ZM 45 x (by omega), ZM 46 x (by omega)⟩) (fun m hm => ⟨ZM 47 m (by omega), ZM 50 m (by omega)⟩) (fun m d hm hd => ⟨ZM 48 _ (by omega), ZM 49 _ (by omega)⟩) (fun p hp => p2 p (by omega))
  · rw [ZC 0 10 (by omega) (by omega) (by omega) (by omega), Z44 7 (by decide) (by decide) (by decide)]; exact r7.1
  · rw [ZC 0 11 (by omega) (by omega) (by omega) (by omega), Z44 21 (by decide) (by decide) (by decide)]; exact r7.2
  · unfold rIm
    rw [Z44 0 (by decide) (by decide) (by decide), Z44 7 (by decide) (by decide) (by decide), Z44 22 (by decide) (by decide) (by decide), ZC 0 13 (by omega) (by omega) (by omega) (by omega), Z44 23 (by decide) (by decide) (by decide)]
    refine ⟨r8.1, ?_⟩
    rcases r8.2 with z | ⟨z1, z2, z3, z4⟩
    · exact Or.inl z
    · refine Or.inr ⟨z1, z2, z3, fun w p hp => ?_⟩
      rw [ZC 23 p (by omega) (by omega) (by omega) (by omega), ZM 57 p (by omega)]
      exact z4 w p hp
  · rw [(k4 N).1, (k3' N (by omega)).1]; exact kB
  · rw [q4 N 2 (by omega)]; exact rh.1
  · rw [q4 N 3 (by omega)]; exact rh.2.1
  · rw [q4 N 4 (by omega)]; exact rh.2.2
  · rw [(k4 _).1]; exact kh.1.1
  · rw [(k4 _).2]; exact kh.1.2
  · rw [(k4 _).1]; exact kh.2.1.1
  · rw [(k4 _).2]; exact kh.2.1.2
  · rw [(k4 _).1]; exact kh.2.2.1
  · rw [(k4 _).2]; exact kh.2.2.2
  · rw [FZ N 0 (by simp <;> omega) (by simp <;> omega)]; exact jN.1
  · rw [FZ N 1 (by simp <;> omega) (by simp <;> omega)]; exact jN.2
  · rw [ZC 0 8 (by omega) (by omega) (by omega) (by omega), Z44 8 (by decide) (by decide) (by decide)]; exact R2.2.2.2.1.1
  · rw [z14] at hp
    by_cases t : p = c
    · subst t
      rw [w52, if_pos rfl]
      unfold Dj at x6
      refine Or.inr ⟨ht, ?_, ?_, by unfold Dj; omega, Or.inl (by omega), by omega⟩
      · rw [q4 10 p (by omega), r3 10 p (by omega) (by omega), rB 10 p (by omega)]
        exact p10c
      · unfold pRel
        rw [w52, w53, w54]
        have sk : sK S4 ht = 10 := by rw [(ex5.2.1 ht (by omega)).1]; exact x5.1.1
        obtain ⟨cc, hcc⟩ := Int.eq_ofNat_of_zero_le v2.1
        refine ⟨x5.2, by rw [ZC ht 0 (by omega) (by omega) (by omega) (by omega), t0]; exact x9, by rw [ZC ht 1 (by omega) (by omega) (by omega) (by omega), t1]; exact x10, Or.inr (Or.inr (Or.inr (Or.inr ⟨sk, rfl, rfl, rfl, x5.ex ex5 x8, cc, by omega, ?_, fun i hi => ?_, fun i h1 h2 => ?_⟩)))⟩
        · rw [ZC ht 5 (by omega) (by omega) (by omega) (by omega), l5]; exact hcc
        · obtain ⟨y1, y2, y3⟩ := ls i (by omega)
          dsimp only
          rw [ZC (ht + 1) i (by omega) (by omega) (by omega) (by omega), ZC (ht + 2) i (by omega) (by omega) (by omega) (by omega), ZC (ht + 3) i (by omega) (by omega) (by omega) (by omega), w55 (3 * i) (by omega), w55 (3 * i + 1) (by omega), w55 (3 * i + 2) (by omega), if_pos (by omega), if_pos (by omega), if_pos (by omega), y1, y2, y3]
          have := v5 i (by omega)
          exact ⟨⟨rfl, rfl, rfl⟩, by omega, by omega, by omega⟩
        · dsimp only
          rw [w55 (3 * i) (by omega), if_neg (by omega)]
    · exact Or.inl (by omega)
