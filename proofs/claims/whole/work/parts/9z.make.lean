/-! the making of the class and of the reference -/
def pS (sh : oS) (n : Nat) (rf : List (Nat × Nat × Nat)) : Prop := sN sh = n ∧ (∀ h, h < n → sK sh h = kd0.getD h 99 ∧ sL sh h = ln0.getD h 0) ∧ ∀ q ∈ rf, q.1 < n ∧ sR sh q.1 q.2.1 = some q.2.2
theorem pS.new {sh : oS} {n kd ln : Nat} {rf : List (Nat × Nat × Nat)} (p : pS sh n rf) (a : kd0.getD n 99 = kd) (b : ln0.getD n 0 = ln) : pS (sNew sh kd ln) (n + 1) rf := by
  have e := p.1
  refine ⟨by rw [← e]; rfl, fun h hh => ?_, fun q hq => ⟨by have := (p.2.2 q hq).1; omega, ?_⟩⟩
  · by_cases z : h = n
    · rw [z, a, b, ← e]
      exact ⟨sK_new, sL_new⟩
    · have x := (sEx.new (sh := sh) (kd := kd) (ln := ln)).2.1 h (by omega)
      rw [x.1, x.2]
      exact p.2.1 h (by omega)
  · rw [sR_new (by have := (p.2.2 q hq).1; omega)]
    exact (p.2.2 q hq).2
theorem pS.put {sh : oS} {n x y v : Nat} {rf : List (Nat × Nat × Nat)} (p : pS sh n rf) (hx : x < n) (nf : ∀ q ∈ rf, ¬ (q.1 = x ∧ q.2.1 = y)) : pS (sPutR sh x y (some v)) n ((x, y, v) :: rf) := by
  refine ⟨p.1, p.2.1, fun q hq => ?_⟩
  rcases List.mem_cons.1 hq with h | h
  · rw [h]
    exact ⟨hx, put_at⟩
  · rw [put_eq (nf q h)]
    exact p.2.2 q h
def zr (I : Nat → Nat → Int) (n : Nat) : Prop := ∀ x k, x < n → I x k = 0
theorem zr.new {sh : oS} {I : Nat → Nat → Int} {n : Nat} {rf : List (Nat × Nat × Nat)} (z : zr I n) (p : pS sh n rf) : zr (iNew sh I) (n + 1) := fun x k hx => by
  show (if x = sh.1 then 0 else I x k) = 0
  have e : sh.1 = n := p.1
  by_cases t : x = n
  · rw [if_pos (by omega)]
  · rw [if_neg (by omega)]
    exact z x k (by omega)
theorem zr.u {I : Nat → Nat → Int} {n h k : Nat} (z : zr I n) : zr (u2 I h k 0) n := fun x y hx => by
  by_cases t : x = h ∧ y = k
  · rw [t.1, t.2, uA]
  · rw [uF (by omega)]
    exact z x y hx
theorem s_forget0 {sh : oS} {I : Nat → Nat → Int} {L : Nat → Nat → Int64} {Q : oQ} (k0 : sK sh 0 = 11) (r1 : sR sh 0 15 = some 41) (r2 : sR sh 0 16 = some 42) (r3 : sR sh 0 17 = some 43) (a1 : sK sh 41 = 13 ∧ sL sh 41 = 128) (a2 : sK sh 42 = 13 ∧ sL sh 42 = 128) (a3 : sK sh 43 = 13 ∧ sL sh 43 = 32) (k : ∀ J, Fr [41, 42, 43] [] I J → (∀ x, x < 128 → J 41 x = -1 ∧ J 42 x = -1) → (∀ x, x < 32 → J 43 x = -1) → Q none (sh, J, L)) : T_X11_forget [vR 0] (sh, I, L) Q := by
  refine And.intro (Nat.le_of_ble_eq_true rfl) (fun K hK => ?_)
  refine hK.1 0 [some (vR 0)] [] (sh, I, L) (0, 0) ?_
  refine hK.1 1 [some (vR 0)] [vR 0] (sh, I, L) (0, 0) ?_
  refine And.intro (mem1 k0) (Exists.intro 41 (And.intro r1 ?_))
  refine hK.1 4 [some (vR 0)] [vR 41] (sh, I, L) (0, 0) ?_
  refine hK.1 5 [some (vR 0)] [vI (-1), vR 41] (sh, I, L) (0, 0) ?_
  refine And.intro ⟨Nat.le_of_ble_eq_true rfl, Nat.le_of_ble_eq_true rfl, Nat.le_of_ble_eq_true rfl, Nat.le_of_ble_eq_true rfl⟩ ?_
  refine s_fill (n := 128) a1.1 a1.2 (by decide) (fun J1 F1 e1 => ?_)
  refine hK.1 8 [some (vR 0)] [] (sh, J1, L) (0, 0) ?_
  refine hK.1 9 [some (vR 0)] [vR 0] (sh, J1, L) (0, 0) ?_
  refine And.intro (mem1 k0) (Exists.intro 42 (And.intro r2 ?_))
  refine hK.1 12 [some (vR 0)] [vR 42] (sh, J1, L) (0, 0) ?_
  refine hK.1 13 [some (vR 0)] [vI (-1), vR 42] (sh, J1, L) (0, 0) ?_
  refine And.intro ⟨Nat.le_of_ble_eq_true rfl, Nat.le_of_ble_eq_true rfl, Nat.le_of_ble_eq_true rfl, Nat.le_of_ble_eq_true rfl⟩ ?_
  refine s_fill (n := 128) a2.1 a2.2 (by decide) (fun J2 F2 e2 => ?_)
  refine hK.1 16 [some (vR 0)] [] (sh, J2, L) (0, 0) ?_
  refine hK.1 17 [some (vR 0)] [vR 0] (sh, J2, L) (0, 0) ?_
  refine And.intro (mem1 k0) (Exists.intro 43 (And.intro r3 ?_))
  refine hK.1 20 [some (vR 0)] [vR 43] (sh, J2, L) (0, 0) ?_
  refine hK.1 21 [some (vR 0)] [vI (-1), vR 43] (sh, J2, L) (0, 0) ?_
  refine And.intro ⟨Nat.le_of_ble_eq_true rfl, Nat.le_of_ble_eq_true rfl, Nat.le_of_ble_eq_true rfl, Nat.le_of_ble_eq_true rfl⟩ ?_
  refine s_fill (n := 32) a3.1 a3.2 (by decide) (fun J3 F3 e3 => ?_)
  refine hK.2 [false] 24 [some (vR 0)] [] (sh, J3, L) (0, 0) ?_
  refine B_X11_forget_24 hK (k := k J3 ?_ (fun x hx => ⟨?_, ?_⟩) e3)
  · intro x y h1 h2
    rw [F3 x y (by simp at h1 ⊢; omega) (by simp), F2 x y (by simp at h1 ⊢; omega) (by simp), F1 x y (by simp at h1 ⊢; omega) (by simp)]
  · rw [F3 41 x (by simp) (by simp), F2 41 x (by simp) (by simp)]
    exact e1 x hx
  · rw [F3 42 x (by simp) (by simp)]
    exact e2 x hx
set_option maxHeartbeats 4000000 in
set_option maxRecDepth 4000 in
theorem c_make {S0 : oS} {I0 : Nat → Nat → Int} {L0 : Nat → Nat → Int64} {Q : oQ} (p0 : pS S0 1 []) (z0 : zr I0 1) (k : ∀ S J L, pS S 44 [(0, 17, 43), (0, 16, 42), (0, 15, 41), (0, 14, 24), (24, 3, 31), (31, 8, 40), (31, 7, 39), (31, 6, 38), (31, 5, 37), (31, 4, 36), (31, 3, 35), (31, 2, 34), (31, 1, 33), (31, 0, 32), (24, 2, 30), (24, 1, 29), (24, 0, 25), (25, 2, 28), (25, 1, 27), (25, 0, 26), (0, 12, 23), (0, 7, 19), (19, 4, 22), (19, 3, 21), (19, 2, 20), (0, 6, 15), (15, 4, 18), (15, 3, 17), (15, 2, 16), (0, 5, 11), (11, 4, 14), (11, 3, 13), (11, 2, 12), (0, 4, 10), (0, 3, 9), (0, 2, 6), (6, 2, 8), (6, 1, 7), (0, 1, 3), (3, 2, 5), (3, 1, 4), (0, 0, 1), (1, 0, 2)] → (∀ x y, x < 44 → ¬ (41 ≤ x ∧ x ≤ 43) → J x y = 0) → (∀ x, x < 128 → J 41 x = -1 ∧ J 42 x = -1) → (∀ x, x < 32 → J 43 x = -1) → Q none (S, J, L)) : T_X11_init [vR 0] (S0, I0, L0) Q := by
  refine And.intro (Nat.le_of_ble_eq_true rfl) (fun K1 hK1 => ?_)
  refine B_X11_init_0 hK1 (k := ?_)
  have en0 : sN S0 = 1 := p0.1
  rw [en0]
  have p1 : pS (sNew S0 8 0) 2 [] := p0.new (by decide) (by decide)
  have z1 := z0.new p0
  generalize sNew S0 8 0 = S1 at p1 ⊢
  generalize iNew S0 I0 = I1 at z1 ⊢
  generalize lNew S0 L0 = L1
  refine And.intro (Nat.le_of_ble_eq_true rfl) (fun K2 hK2 => ?_)
  refine B_X8_init_0 hK2 (kh0_0 := by rw [((p1.new (kd := 13) (ln := 60) (by decide) (by decide)).2.1 1 (by decide)).1]; rfl) (k := ?_)
  have en1 : sN S1 = 2 := p1.1
  rw [en1]
  have p2 : pS (sPutR (sNew S1 13 60) 1 0 (some 2)) 3 [(1, 0, 2)] := (p1.new (by decide) (by decide)).put (by decide) (by decide)
  have z2 := z1.new p1
  generalize sPutR (sNew S1 13 60) 1 0 (some 2) = S2 at p2 ⊢
  generalize iNew S1 I1 = I2 at z2 ⊢
  generalize lNew S1 L1 = L2
  refine B_X8_init_12 hK2 (k := ?_)
  refine B_X11_init_12 hK1 (ks0_0 := by rw [(p2.2.1 0 (by decide)).1]; rfl) (k := ?_)
  have p3 : pS (sPutR S2 0 0 (some 1)) 3 [(0, 0, 1), (1, 0, 2)] := p2.put (by decide) (by decide)
  generalize sPutR S2 0 0 (some 1) = S3 at p3 ⊢
  refine B_X11_init_15 hK1 (k := ?_)
  have en3 : sN S3 = 3 := p3.1
  rw [en3]
  have p4 : pS (sNew S3 4 0) 4 [(0, 0, 1), (1, 0, 2)] := p3.new (by decide) (by decide)
  have z4 := z2.new p3
  generalize sNew S3 4 0 = S4 at p4 ⊢
  generalize iNew S3 I2 = I4 at z4 ⊢
  generalize lNew S3 L2 = L4
  refine And.intro (Nat.le_of_ble_eq_true rfl) (fun K3 hK3 => ?_)
  refine B_X4_init_0 hK3 (kh0_0 := by rw [((p4.new (kd := 13) (ln := 8) (by decide) (by decide)).2.1 3 (by decide)).1]; rfl) (k := ?_)
  have en4 : sN S4 = 4 := p4.1
  rw [en4]
  have p5 : pS (sPutR (sNew S4 13 8) 3 1 (some 4)) 5 [(3, 1, 4), (0, 0, 1), (1, 0, 2)] := (p4.new (by decide) (by decide)).put (by decide) (by decide)
  have z5 := z4.new p4
  generalize sPutR (sNew S4 13 8) 3 1 (some 4) = S5 at p5 ⊢
  generalize iNew S4 I4 = I5 at z5 ⊢
  generalize lNew S4 L4 = L5
  refine B_X4_init_12 hK3 (kh0_0 := by rw [((p5.new (kd := 13) (ln := 8) (by decide) (by decide)).2.1 3 (by decide)).1]; rfl) (k := ?_)
  have en5 : sN S5 = 5 := p5.1
  rw [en5]
  have p6 : pS (sPutR (sNew S5 13 8) 3 2 (some 5)) 6 [(3, 2, 5), (3, 1, 4), (0, 0, 1), (1, 0, 2)] := (p5.new (by decide) (by decide)).put (by decide) (by decide)
  have z6 := z5.new p5
  generalize sPutR (sNew S5 13 8) 3 2 (some 5) = S6 at p6 ⊢
  generalize iNew S5 I5 = I6 at z6 ⊢
  generalize lNew S5 L5 = L6
  refine B_X4_init_20 hK3 (k := ?_)
  refine B_X11_init_23 hK1 (ks0_0 := by rw [(p6.2.1 0 (by decide)).1]; rfl) (k := ?_)
  have p7 : pS (sPutR S6 0 1 (some 3)) 6 [(0, 1, 3), (3, 2, 5), (3, 1, 4), (0, 0, 1), (1, 0, 2)] := p6.put (by decide) (by decide)
  generalize sPutR S6 0 1 (some 3) = S7 at p7 ⊢
  refine B_X11_init_26 hK1 (k := ?_)
  have en7 : sN S7 = 6 := p7.1
  rw [en7]
  have p8 : pS (sNew S7 4 0) 7 [(0, 1, 3), (3, 2, 5), (3, 1, 4), (0, 0, 1), (1, 0, 2)] := p7.new (by decide) (by decide)
  have z8 := z6.new p7
  generalize sNew S7 4 0 = S8 at p8 ⊢
  generalize iNew S7 I6 = I8 at z8 ⊢
  generalize lNew S7 L6 = L8
  refine And.intro (Nat.le_of_ble_eq_true rfl) (fun K4 hK4 => ?_)
  refine B_X4_init_0 hK4 (kh0_0 := by rw [((p8.new (kd := 13) (ln := 8) (by decide) (by decide)).2.1 6 (by decide)).1]; rfl) (k := ?_)
  have en8 : sN S8 = 7 := p8.1
  rw [en8]
  have p9 : pS (sPutR (sNew S8 13 8) 6 1 (some 7)) 8 [(6, 1, 7), (0, 1, 3), (3, 2, 5), (3, 1, 4), (0, 0, 1), (1, 0, 2)] := (p8.new (by decide) (by decide)).put (by decide) (by decide)
  have z9 := z8.new p8
  generalize sPutR (sNew S8 13 8) 6 1 (some 7) = S9 at p9 ⊢
  generalize iNew S8 I8 = I9 at z9 ⊢
  generalize lNew S8 L8 = L9
  refine B_X4_init_12 hK4 (kh0_0 := by rw [((p9.new (kd := 13) (ln := 8) (by decide) (by decide)).2.1 6 (by decide)).1]; rfl) (k := ?_)
  have en9 : sN S9 = 8 := p9.1
  rw [en9]
  have p10 : pS (sPutR (sNew S9 13 8) 6 2 (some 8)) 9 [(6, 2, 8), (6, 1, 7), (0, 1, 3), (3, 2, 5), (3, 1, 4), (0, 0, 1), (1, 0, 2)] := (p9.new (by decide) (by decide)).put (by decide) (by decide)
  have z10 := z9.new p9
  generalize sPutR (sNew S9 13 8) 6 2 (some 8) = S10 at p10 ⊢
  generalize iNew S9 I9 = I10 at z10 ⊢
  generalize lNew S9 L9 = L10
  refine B_X4_init_20 hK4 (k := ?_)
  refine B_X11_init_34 hK1 (ks0_0 := by rw [(p10.2.1 0 (by decide)).1]; rfl) (k := ?_)
  have p11 : pS (sPutR S10 0 2 (some 6)) 9 [(0, 2, 6), (6, 2, 8), (6, 1, 7), (0, 1, 3), (3, 2, 5), (3, 1, 4), (0, 0, 1), (1, 0, 2)] := p10.put (by decide) (by decide)
  generalize sPutR S10 0 2 (some 6) = S11 at p11 ⊢
  refine B_X11_init_37 hK1 (kh0_0 := by rw [((p11.new (kd := 16) (ln := 4) (by decide) (by decide)).2.1 0 (by decide)).1]; rfl) (k := ?_)
  have en11 : sN S11 = 9 := p11.1
  rw [en11]
  have p12 : pS (sPutR (sNew S11 16 4) 0 3 (some 9)) 10 [(0, 3, 9), (0, 2, 6), (6, 2, 8), (6, 1, 7), (0, 1, 3), (3, 2, 5), (3, 1, 4), (0, 0, 1), (1, 0, 2)] := (p11.new (by decide) (by decide)).put (by decide) (by decide)
  have z12 := z10.new p11
  generalize sPutR (sNew S11 16 4) 0 3 (some 9) = S12 at p12 ⊢
  generalize iNew S11 I10 = I12 at z12 ⊢
  generalize lNew S11 L10 = L12
  refine B_X11_init_45 hK1 (kh0_0 := by rw [((p12.new (kd := 17) (ln := 8) (by decide) (by decide)).2.1 0 (by decide)).1]; rfl) (k := ?_)
  have en12 : sN S12 = 10 := p12.1
  rw [en12]
  have p13 : pS (sPutR (sNew S12 17 8) 0 4 (some 10)) 11 [(0, 4, 10), (0, 3, 9), (0, 2, 6), (6, 2, 8), (6, 1, 7), (0, 1, 3), (3, 2, 5), (3, 1, 4), (0, 0, 1), (1, 0, 2)] := (p12.new (by decide) (by decide)).put (by decide) (by decide)
  have z13 := z12.new p12
  generalize sPutR (sNew S12 17 8) 0 4 (some 10) = S13 at p13 ⊢
  generalize iNew S12 I12 = I13 at z13 ⊢
  generalize lNew S12 L12 = L13
  refine B_X11_init_54 hK1 (k := ?_)
  have en13 : sN S13 = 11 := p13.1
  rw [en13]
  have p14 : pS (sNew S13 6 0) 12 [(0, 4, 10), (0, 3, 9), (0, 2, 6), (6, 2, 8), (6, 1, 7), (0, 1, 3), (3, 2, 5), (3, 1, 4), (0, 0, 1), (1, 0, 2)] := p13.new (by decide) (by decide)
  have z14 := z13.new p13
  generalize sNew S13 6 0 = S14 at p14 ⊢
  generalize iNew S13 I13 = I14 at z14 ⊢
  generalize lNew S13 L13 = L14
  refine And.intro (Nat.le_of_ble_eq_true rfl) (fun K5 hK5 => ?_)
  refine B_X6_init_0 hK5 (kh0_0 := by rw [((p14.new (kd := 13) (ln := 10) (by decide) (by decide)).2.1 11 (by decide)).1]; rfl) (k := ?_)
  have en14 : sN S14 = 12 := p14.1
  rw [en14]
  have p15 : pS (sPutR (sNew S14 13 10) 11 2 (some 12)) 13 [(11, 2, 12), (0, 4, 10), (0, 3, 9), (0, 2, 6), (6, 2, 8), (6, 1, 7), (0, 1, 3), (3, 2, 5), (3, 1, 4), (0, 0, 1), (1, 0, 2)] := (p14.new (by decide) (by decide)).put (by decide) (by decide)
  have z15 := z14.new p14
  generalize sPutR (sNew S14 13 10) 11 2 (some 12) = S15 at p15 ⊢
  generalize iNew S14 I14 = I15 at z15 ⊢
  generalize lNew S14 L14 = L15
  refine B_X6_init_12 hK5 (kh0_0 := by rw [((p15.new (kd := 13) (ln := 10) (by decide) (by decide)).2.1 11 (by decide)).1]; rfl) (k := ?_)
  have en15 : sN S15 = 13 := p15.1
  rw [en15]
  have p16 : pS (sPutR (sNew S15 13 10) 11 3 (some 13)) 14 [(11, 3, 13), (11, 2, 12), (0, 4, 10), (0, 3, 9), (0, 2, 6), (6, 2, 8), (6, 1, 7), (0, 1, 3), (3, 2, 5), (3, 1, 4), (0, 0, 1), (1, 0, 2)] := (p15.new (by decide) (by decide)).put (by decide) (by decide)
  have z16 := z15.new p15
  generalize sPutR (sNew S15 13 10) 11 3 (some 13) = S16 at p16 ⊢
  generalize iNew S15 I15 = I16 at z16 ⊢
  generalize lNew S15 L15 = L16
  refine B_X6_init_20 hK5 (kh0_0 := by rw [((p16.new (kd := 13) (ln := 2) (by decide) (by decide)).2.1 11 (by decide)).1]; rfl) (k := ?_)
  have en16 : sN S16 = 14 := p16.1
  rw [en16]
  have p17 : pS (sPutR (sNew S16 13 2) 11 4 (some 14)) 15 [(11, 4, 14), (11, 3, 13), (11, 2, 12), (0, 4, 10), (0, 3, 9), (0, 2, 6), (6, 2, 8), (6, 1, 7), (0, 1, 3), (3, 2, 5), (3, 1, 4), (0, 0, 1), (1, 0, 2)] := (p16.new (by decide) (by decide)).put (by decide) (by decide)
  have z17 := z16.new p16
  generalize sPutR (sNew S16 13 2) 11 4 (some 14) = S17 at p17 ⊢
  generalize iNew S16 I16 = I17 at z17 ⊢
  generalize lNew S16 L16 = L17
  refine B_X6_init_27 hK5 (k := ?_)
  refine B_X11_init_62 hK1 (ks0_0 := by rw [(p17.2.1 0 (by decide)).1]; rfl) (k := ?_)
  have p18 : pS (sPutR S17 0 5 (some 11)) 15 [(0, 5, 11), (11, 4, 14), (11, 3, 13), (11, 2, 12), (0, 4, 10), (0, 3, 9), (0, 2, 6), (6, 2, 8), (6, 1, 7), (0, 1, 3), (3, 2, 5), (3, 1, 4), (0, 0, 1), (1, 0, 2)] := p17.put (by decide) (by decide)
  generalize sPutR S17 0 5 (some 11) = S18 at p18 ⊢
  refine B_X11_init_65 hK1 (k := ?_)
  have en18 : sN S18 = 15 := p18.1
  rw [en18]
  have p19 : pS (sNew S18 6 0) 16 [(0, 5, 11), (11, 4, 14), (11, 3, 13), (11, 2, 12), (0, 4, 10), (0, 3, 9), (0, 2, 6), (6, 2, 8), (6, 1, 7), (0, 1, 3), (3, 2, 5), (3, 1, 4), (0, 0, 1), (1, 0, 2)] := p18.new (by decide) (by decide)
  have z19 := z17.new p18
  generalize sNew S18 6 0 = S19 at p19 ⊢
  generalize iNew S18 I17 = I19 at z19 ⊢
  generalize lNew S18 L17 = L19
  refine And.intro (Nat.le_of_ble_eq_true rfl) (fun K6 hK6 => ?_)
  refine B_X6_init_0 hK6 (kh0_0 := by rw [((p19.new (kd := 13) (ln := 10) (by decide) (by decide)).2.1 15 (by decide)).1]; rfl) (k := ?_)
  have en19 : sN S19 = 16 := p19.1
  rw [en19]
  have p20 : pS (sPutR (sNew S19 13 10) 15 2 (some 16)) 17 [(15, 2, 16), (0, 5, 11), (11, 4, 14), (11, 3, 13), (11, 2, 12), (0, 4, 10), (0, 3, 9), (0, 2, 6), (6, 2, 8), (6, 1, 7), (0, 1, 3), (3, 2, 5), (3, 1, 4), (0, 0, 1), (1, 0, 2)] := (p19.new (by decide) (by decide)).put (by decide) (by decide)
  have z20 := z19.new p19
  generalize sPutR (sNew S19 13 10) 15 2 (some 16) = S20 at p20 ⊢
  generalize iNew S19 I19 = I20 at z20 ⊢
  generalize lNew S19 L19 = L20
  refine B_X6_init_12 hK6 (kh0_0 := by rw [((p20.new (kd := 13) (ln := 10) (by decide) (by decide)).2.1 15 (by decide)).1]; rfl) (k := ?_)
  have en20 : sN S20 = 17 := p20.1
  rw [en20]
  have p21 : pS (sPutR (sNew S20 13 10) 15 3 (some 17)) 18 [(15, 3, 17), (15, 2, 16), (0, 5, 11), (11, 4, 14), (11, 3, 13), (11, 2, 12), (0, 4, 10), (0, 3, 9), (0, 2, 6), (6, 2, 8), (6, 1, 7), (0, 1, 3), (3, 2, 5), (3, 1, 4), (0, 0, 1), (1, 0, 2)] := (p20.new (by decide) (by decide)).put (by decide) (by decide)
  have z21 := z20.new p20
  generalize sPutR (sNew S20 13 10) 15 3 (some 17) = S21 at p21 ⊢
  generalize iNew S20 I20 = I21 at z21 ⊢
  generalize lNew S20 L20 = L21
  refine B_X6_init_20 hK6 (kh0_0 := by rw [((p21.new (kd := 13) (ln := 2) (by decide) (by decide)).2.1 15 (by decide)).1]; rfl) (k := ?_)
  have en21 : sN S21 = 18 := p21.1
  rw [en21]
  have p22 : pS (sPutR (sNew S21 13 2) 15 4 (some 18)) 19 [(15, 4, 18), (15, 3, 17), (15, 2, 16), (0, 5, 11), (11, 4, 14), (11, 3, 13), (11, 2, 12), (0, 4, 10), (0, 3, 9), (0, 2, 6), (6, 2, 8), (6, 1, 7), (0, 1, 3), (3, 2, 5), (3, 1, 4), (0, 0, 1), (1, 0, 2)] := (p21.new (by decide) (by decide)).put (by decide) (by decide)
  have z22 := z21.new p21
  generalize sPutR (sNew S21 13 2) 15 4 (some 18) = S22 at p22 ⊢
  generalize iNew S21 I21 = I22 at z22 ⊢
  generalize lNew S21 L21 = L22
  refine B_X6_init_27 hK6 (k := ?_)
  refine B_X11_init_73 hK1 (ks0_0 := by rw [(p22.2.1 0 (by decide)).1]; rfl) (k := ?_)
  have p23 : pS (sPutR S22 0 6 (some 15)) 19 [(0, 6, 15), (15, 4, 18), (15, 3, 17), (15, 2, 16), (0, 5, 11), (11, 4, 14), (11, 3, 13), (11, 2, 12), (0, 4, 10), (0, 3, 9), (0, 2, 6), (6, 2, 8), (6, 1, 7), (0, 1, 3), (3, 2, 5), (3, 1, 4), (0, 0, 1), (1, 0, 2)] := p22.put (by decide) (by decide)
  generalize sPutR S22 0 6 (some 15) = S23 at p23 ⊢
  refine B_X11_init_76 hK1 (k := ?_)
  have en23 : sN S23 = 19 := p23.1
  rw [en23]
  have p24 : pS (sNew S23 10 0) 20 [(0, 6, 15), (15, 4, 18), (15, 3, 17), (15, 2, 16), (0, 5, 11), (11, 4, 14), (11, 3, 13), (11, 2, 12), (0, 4, 10), (0, 3, 9), (0, 2, 6), (6, 2, 8), (6, 1, 7), (0, 1, 3), (3, 2, 5), (3, 1, 4), (0, 0, 1), (1, 0, 2)] := p23.new (by decide) (by decide)
  have z24 := z22.new p23
  generalize sNew S23 10 0 = S24 at p24 ⊢
  generalize iNew S23 I22 = I24 at z24 ⊢
  generalize lNew S23 L22 = L24
  refine And.intro (Nat.le_of_ble_eq_true rfl) (fun K7 hK7 => ?_)
  refine B_X10_init_0 hK7 (k := ?_)
  refine s_init0 (by rw [(p24.2.1 19 (by decide)).1]; decide) ?_
  have z25 := (z24.u (h := 19) (k := 0)).u (h := 19) (k := 1)
  generalize u2 (u2 I24 19 0 0) 19 1 0 = I25 at z25 ⊢
  refine B_X10_init_6 hK7 (kh0_0 := by rw [((p24.new (kd := 13) (ln := 6) (by decide) (by decide)).2.1 19 (by decide)).1]; rfl) (k := ?_)
  have en25 : sN S24 = 20 := p24.1
  rw [en25]
  have p26 : pS (sPutR (sNew S24 13 6) 19 2 (some 20)) 21 [(19, 2, 20), (0, 6, 15), (15, 4, 18), (15, 3, 17), (15, 2, 16), (0, 5, 11), (11, 4, 14), (11, 3, 13), (11, 2, 12), (0, 4, 10), (0, 3, 9), (0, 2, 6), (6, 2, 8), (6, 1, 7), (0, 1, 3), (3, 2, 5), (3, 1, 4), (0, 0, 1), (1, 0, 2)] := (p24.new (by decide) (by decide)).put (by decide) (by decide)
  have z26 := z25.new p24
  generalize sPutR (sNew S24 13 6) 19 2 (some 20) = S26 at p26 ⊢
  generalize iNew S24 I25 = I26 at z26 ⊢
  generalize lNew S24 L24 = L26
  refine B_X10_init_14 hK7 (kh0_0 := by rw [((p26.new (kd := 13) (ln := 6) (by decide) (by decide)).2.1 19 (by decide)).1]; rfl) (k := ?_)
  have en26 : sN S26 = 21 := p26.1
  rw [en26]
  have p27 : pS (sPutR (sNew S26 13 6) 19 3 (some 21)) 22 [(19, 3, 21), (19, 2, 20), (0, 6, 15), (15, 4, 18), (15, 3, 17), (15, 2, 16), (0, 5, 11), (11, 4, 14), (11, 3, 13), (11, 2, 12), (0, 4, 10), (0, 3, 9), (0, 2, 6), (6, 2, 8), (6, 1, 7), (0, 1, 3), (3, 2, 5), (3, 1, 4), (0, 0, 1), (1, 0, 2)] := (p26.new (by decide) (by decide)).put (by decide) (by decide)
  have z27 := z26.new p26
  generalize sPutR (sNew S26 13 6) 19 3 (some 21) = S27 at p27 ⊢
  generalize iNew S26 I26 = I27 at z27 ⊢
  generalize lNew S26 L26 = L27
  refine B_X10_init_22 hK7 (kh0_0 := by rw [((p27.new (kd := 13) (ln := 6) (by decide) (by decide)).2.1 19 (by decide)).1]; rfl) (k := ?_)
  have en27 : sN S27 = 22 := p27.1
  rw [en27]
  have p28 : pS (sPutR (sNew S27 13 6) 19 4 (some 22)) 23 [(19, 4, 22), (19, 3, 21), (19, 2, 20), (0, 6, 15), (15, 4, 18), (15, 3, 17), (15, 2, 16), (0, 5, 11), (11, 4, 14), (11, 3, 13), (11, 2, 12), (0, 4, 10), (0, 3, 9), (0, 2, 6), (6, 2, 8), (6, 1, 7), (0, 1, 3), (3, 2, 5), (3, 1, 4), (0, 0, 1), (1, 0, 2)] := (p27.new (by decide) (by decide)).put (by decide) (by decide)
  have z28 := z27.new p27
  generalize sPutR (sNew S27 13 6) 19 4 (some 22) = S28 at p28 ⊢
  generalize iNew S27 I27 = I28 at z28 ⊢
  generalize lNew S27 L27 = L28
  refine B_X10_init_30 hK7 (k := ?_)
  refine B_X11_init_84 hK1 (ks0_0 := by rw [(p28.2.1 0 (by decide)).1]; rfl) (k := ?_)
  have p29 : pS (sPutR S28 0 7 (some 19)) 23 [(0, 7, 19), (19, 4, 22), (19, 3, 21), (19, 2, 20), (0, 6, 15), (15, 4, 18), (15, 3, 17), (15, 2, 16), (0, 5, 11), (11, 4, 14), (11, 3, 13), (11, 2, 12), (0, 4, 10), (0, 3, 9), (0, 2, 6), (6, 2, 8), (6, 1, 7), (0, 1, 3), (3, 2, 5), (3, 1, 4), (0, 0, 1), (1, 0, 2)] := p28.put (by decide) (by decide)
  generalize sPutR S28 0 7 (some 19) = S29 at p29 ⊢
  refine B_X11_init_87 hK1 (kh0_0 := by rw [((p29.new (kd := 13) (ln := 8) (by decide) (by decide)).2.1 0 (by decide)).1]; rfl) (k := ?_)
  have en29 : sN S29 = 23 := p29.1
  rw [en29]
  have p30 : pS (sPutR (sNew S29 13 8) 0 12 (some 23)) 24 [(0, 12, 23), (0, 7, 19), (19, 4, 22), (19, 3, 21), (19, 2, 20), (0, 6, 15), (15, 4, 18), (15, 3, 17), (15, 2, 16), (0, 5, 11), (11, 4, 14), (11, 3, 13), (11, 2, 12), (0, 4, 10), (0, 3, 9), (0, 2, 6), (6, 2, 8), (6, 1, 7), (0, 1, 3), (3, 2, 5), (3, 1, 4), (0, 0, 1), (1, 0, 2)] := (p29.new (by decide) (by decide)).put (by decide) (by decide)
  have z30 := z28.new p29
  generalize sPutR (sNew S29 13 8) 0 12 (some 23) = S30 at p30 ⊢
  generalize iNew S29 I28 = I30 at z30 ⊢
  generalize lNew S29 L28 = L30
  refine B_X11_init_95 hK1 (k := ?_)
  have en30 : sN S30 = 24 := p30.1
  rw [en30]
  have p31 : pS (sNew S30 2 0) 25 [(0, 12, 23), (0, 7, 19), (19, 4, 22), (19, 3, 21), (19, 2, 20), (0, 6, 15), (15, 4, 18), (15, 3, 17), (15, 2, 16), (0, 5, 11), (11, 4, 14), (11, 3, 13), (11, 2, 12), (0, 4, 10), (0, 3, 9), (0, 2, 6), (6, 2, 8), (6, 1, 7), (0, 1, 3), (3, 2, 5), (3, 1, 4), (0, 0, 1), (1, 0, 2)] := p30.new (by decide) (by decide)
  have z31 := z30.new p30
  generalize sNew S30 2 0 = S31 at p31 ⊢
  generalize iNew S30 I30 = I31 at z31 ⊢
  generalize lNew S30 L30 = L31
  refine And.intro (Nat.le_of_ble_eq_true rfl) (fun K8 hK8 => ?_)
  refine B_X2_init_0 hK8 (k := ?_)
  have en31 : sN S31 = 25 := p31.1
  rw [en31]
  have p32 : pS (sNew S31 9 0) 26 [(0, 12, 23), (0, 7, 19), (19, 4, 22), (19, 3, 21), (19, 2, 20), (0, 6, 15), (15, 4, 18), (15, 3, 17), (15, 2, 16), (0, 5, 11), (11, 4, 14), (11, 3, 13), (11, 2, 12), (0, 4, 10), (0, 3, 9), (0, 2, 6), (6, 2, 8), (6, 1, 7), (0, 1, 3), (3, 2, 5), (3, 1, 4), (0, 0, 1), (1, 0, 2)] := p31.new (by decide) (by decide)
  have z32 := z31.new p31
  generalize sNew S31 9 0 = S32 at p32 ⊢
  generalize iNew S31 I31 = I32 at z32 ⊢
  generalize lNew S31 L31 = L32
  refine And.intro (Nat.le_of_ble_eq_true rfl) (fun K9 hK9 => ?_)
  refine B_X9_init_0 hK9 (kh0_0 := by rw [((p32.new (kd := 13) (ln := 30) (by decide) (by decide)).2.1 25 (by decide)).1]; rfl) (k := ?_)
  have en32 : sN S32 = 26 := p32.1
  rw [en32]
  have p33 : pS (sPutR (sNew S32 13 30) 25 0 (some 26)) 27 [(25, 0, 26), (0, 12, 23), (0, 7, 19), (19, 4, 22), (19, 3, 21), (19, 2, 20), (0, 6, 15), (15, 4, 18), (15, 3, 17), (15, 2, 16), (0, 5, 11), (11, 4, 14), (11, 3, 13), (11, 2, 12), (0, 4, 10), (0, 3, 9), (0, 2, 6), (6, 2, 8), (6, 1, 7), (0, 1, 3), (3, 2, 5), (3, 1, 4), (0, 0, 1), (1, 0, 2)] := (p32.new (by decide) (by decide)).put (by decide) (by decide)
  have z33 := z32.new p32
  generalize sPutR (sNew S32 13 30) 25 0 (some 26) = S33 at p33 ⊢
  generalize iNew S32 I32 = I33 at z33 ⊢
  generalize lNew S32 L32 = L33
  refine B_X9_init_12 hK9 (kh0_0 := by rw [((p33.new (kd := 13) (ln := 30) (by decide) (by decide)).2.1 25 (by decide)).1]; rfl) (k := ?_)
  have en33 : sN S33 = 27 := p33.1
  rw [en33]
  have p34 : pS (sPutR (sNew S33 13 30) 25 1 (some 27)) 28 [(25, 1, 27), (25, 0, 26), (0, 12, 23), (0, 7, 19), (19, 4, 22), (19, 3, 21), (19, 2, 20), (0, 6, 15), (15, 4, 18), (15, 3, 17), (15, 2, 16), (0, 5, 11), (11, 4, 14), (11, 3, 13), (11, 2, 12), (0, 4, 10), (0, 3, 9), (0, 2, 6), (6, 2, 8), (6, 1, 7), (0, 1, 3), (3, 2, 5), (3, 1, 4), (0, 0, 1), (1, 0, 2)] := (p33.new (by decide) (by decide)).put (by decide) (by decide)
  have z34 := z33.new p33
  generalize sPutR (sNew S33 13 30) 25 1 (some 27) = S34 at p34 ⊢
  generalize iNew S33 I33 = I34 at z34 ⊢
  generalize lNew S33 L33 = L34
  refine B_X9_init_20 hK9 (kh0_0 := by rw [((p34.new (kd := 13) (ln := 30) (by decide) (by decide)).2.1 25 (by decide)).1]; rfl) (k := ?_)
  have en34 : sN S34 = 28 := p34.1
  rw [en34]
  have p35 : pS (sPutR (sNew S34 13 30) 25 2 (some 28)) 29 [(25, 2, 28), (25, 1, 27), (25, 0, 26), (0, 12, 23), (0, 7, 19), (19, 4, 22), (19, 3, 21), (19, 2, 20), (0, 6, 15), (15, 4, 18), (15, 3, 17), (15, 2, 16), (0, 5, 11), (11, 4, 14), (11, 3, 13), (11, 2, 12), (0, 4, 10), (0, 3, 9), (0, 2, 6), (6, 2, 8), (6, 1, 7), (0, 1, 3), (3, 2, 5), (3, 1, 4), (0, 0, 1), (1, 0, 2)] := (p34.new (by decide) (by decide)).put (by decide) (by decide)
  have z35 := z34.new p34
  generalize sPutR (sNew S34 13 30) 25 2 (some 28) = S35 at p35 ⊢
  generalize iNew S34 I34 = I35 at z35 ⊢
  generalize lNew S34 L34 = L35
  refine B_X9_init_28 hK9 (k := ?_)
  refine B_X2_init_12 hK8 (ks0_0 := by rw [(p35.2.1 24 (by decide)).1]; rfl) (k := ?_)
  have p36 : pS (sPutR S35 24 0 (some 25)) 29 [(24, 0, 25), (25, 2, 28), (25, 1, 27), (25, 0, 26), (0, 12, 23), (0, 7, 19), (19, 4, 22), (19, 3, 21), (19, 2, 20), (0, 6, 15), (15, 4, 18), (15, 3, 17), (15, 2, 16), (0, 5, 11), (11, 4, 14), (11, 3, 13), (11, 2, 12), (0, 4, 10), (0, 3, 9), (0, 2, 6), (6, 2, 8), (6, 1, 7), (0, 1, 3), (3, 2, 5), (3, 1, 4), (0, 0, 1), (1, 0, 2)] := p35.put (by decide) (by decide)
  generalize sPutR S35 24 0 (some 25) = S36 at p36 ⊢
  refine B_X2_init_15 hK8 (kh0_0 := by rw [((p36.new (kd := 13) (ln := 10) (by decide) (by decide)).2.1 24 (by decide)).1]; rfl) (k := ?_)
  have en36 : sN S36 = 29 := p36.1
  rw [en36]
  have p37 : pS (sPutR (sNew S36 13 10) 24 1 (some 29)) 30 [(24, 1, 29), (24, 0, 25), (25, 2, 28), (25, 1, 27), (25, 0, 26), (0, 12, 23), (0, 7, 19), (19, 4, 22), (19, 3, 21), (19, 2, 20), (0, 6, 15), (15, 4, 18), (15, 3, 17), (15, 2, 16), (0, 5, 11), (11, 4, 14), (11, 3, 13), (11, 2, 12), (0, 4, 10), (0, 3, 9), (0, 2, 6), (6, 2, 8), (6, 1, 7), (0, 1, 3), (3, 2, 5), (3, 1, 4), (0, 0, 1), (1, 0, 2)] := (p36.new (by decide) (by decide)).put (by decide) (by decide)
  have z37 := z35.new p36
  generalize sPutR (sNew S36 13 10) 24 1 (some 29) = S37 at p37 ⊢
  generalize iNew S36 I35 = I37 at z37 ⊢
  generalize lNew S36 L35 = L37
  refine B_X2_init_23 hK8 (kh0_0 := by rw [((p37.new (kd := 13) (ln := 152) (by decide) (by decide)).2.1 24 (by decide)).1]; rfl) (k := ?_)
  have en37 : sN S37 = 30 := p37.1
  rw [en37]
  have p38 : pS (sPutR (sNew S37 13 152) 24 2 (some 30)) 31 [(24, 2, 30), (24, 1, 29), (24, 0, 25), (25, 2, 28), (25, 1, 27), (25, 0, 26), (0, 12, 23), (0, 7, 19), (19, 4, 22), (19, 3, 21), (19, 2, 20), (0, 6, 15), (15, 4, 18), (15, 3, 17), (15, 2, 16), (0, 5, 11), (11, 4, 14), (11, 3, 13), (11, 2, 12), (0, 4, 10), (0, 3, 9), (0, 2, 6), (6, 2, 8), (6, 1, 7), (0, 1, 3), (3, 2, 5), (3, 1, 4), (0, 0, 1), (1, 0, 2)] := (p37.new (by decide) (by decide)).put (by decide) (by decide)
  have z38 := z37.new p37
  generalize sPutR (sNew S37 13 152) 24 2 (some 30) = S38 at p38 ⊢
  generalize iNew S37 I37 = I38 at z38 ⊢
  generalize lNew S37 L37 = L38
  refine B_X2_init_32 hK8 (k := ?_)
  have en38 : sN S38 = 31 := p38.1
  rw [en38]
  have p39 : pS (sNew S38 7 0) 32 [(24, 2, 30), (24, 1, 29), (24, 0, 25), (25, 2, 28), (25, 1, 27), (25, 0, 26), (0, 12, 23), (0, 7, 19), (19, 4, 22), (19, 3, 21), (19, 2, 20), (0, 6, 15), (15, 4, 18), (15, 3, 17), (15, 2, 16), (0, 5, 11), (11, 4, 14), (11, 3, 13), (11, 2, 12), (0, 4, 10), (0, 3, 9), (0, 2, 6), (6, 2, 8), (6, 1, 7), (0, 1, 3), (3, 2, 5), (3, 1, 4), (0, 0, 1), (1, 0, 2)] := p38.new (by decide) (by decide)
  have z39 := z38.new p38
  generalize sNew S38 7 0 = S39 at p39 ⊢
  generalize iNew S38 I38 = I39 at z39 ⊢
  generalize lNew S38 L38 = L39
  refine And.intro (Nat.le_of_ble_eq_true rfl) (fun K10 hK10 => ?_)
  refine B_X7_init_0 hK10 (kh0_0 := by rw [((p39.new (kd := 13) (ln := 2548) (by decide) (by decide)).2.1 31 (by decide)).1]; rfl) (k := ?_)
  have en39 : sN S39 = 32 := p39.1
  rw [en39]
  have p40 : pS (sPutR (sNew S39 13 2548) 31 0 (some 32)) 33 [(31, 0, 32), (24, 2, 30), (24, 1, 29), (24, 0, 25), (25, 2, 28), (25, 1, 27), (25, 0, 26), (0, 12, 23), (0, 7, 19), (19, 4, 22), (19, 3, 21), (19, 2, 20), (0, 6, 15), (15, 4, 18), (15, 3, 17), (15, 2, 16), (0, 5, 11), (11, 4, 14), (11, 3, 13), (11, 2, 12), (0, 4, 10), (0, 3, 9), (0, 2, 6), (6, 2, 8), (6, 1, 7), (0, 1, 3), (3, 2, 5), (3, 1, 4), (0, 0, 1), (1, 0, 2)] := (p39.new (by decide) (by decide)).put (by decide) (by decide)
  have z40 := z39.new p39
  generalize sPutR (sNew S39 13 2548) 31 0 (some 32) = S40 at p40 ⊢
  generalize iNew S39 I39 = I40 at z40 ⊢
  generalize lNew S39 L39 = L40
  refine B_X7_init_13 hK10 (kh0_0 := by rw [((p40.new (kd := 13) (ln := 2548) (by decide) (by decide)).2.1 31 (by decide)).1]; rfl) (k := ?_)
  have en40 : sN S40 = 33 := p40.1
  rw [en40]
  have p41 : pS (sPutR (sNew S40 13 2548) 31 1 (some 33)) 34 [(31, 1, 33), (31, 0, 32), (24, 2, 30), (24, 1, 29), (24, 0, 25), (25, 2, 28), (25, 1, 27), (25, 0, 26), (0, 12, 23), (0, 7, 19), (19, 4, 22), (19, 3, 21), (19, 2, 20), (0, 6, 15), (15, 4, 18), (15, 3, 17), (15, 2, 16), (0, 5, 11), (11, 4, 14), (11, 3, 13), (11, 2, 12), (0, 4, 10), (0, 3, 9), (0, 2, 6), (6, 2, 8), (6, 1, 7), (0, 1, 3), (3, 2, 5), (3, 1, 4), (0, 0, 1), (1, 0, 2)] := (p40.new (by decide) (by decide)).put (by decide) (by decide)
  have z41 := z40.new p40
  generalize sPutR (sNew S40 13 2548) 31 1 (some 33) = S41 at p41 ⊢
  generalize iNew S40 I40 = I41 at z41 ⊢
  generalize lNew S40 L40 = L41
  refine B_X7_init_22 hK10 (kh0_0 := by rw [((p41.new (kd := 13) (ln := 2548) (by decide) (by decide)).2.1 31 (by decide)).1]; rfl) (k := ?_)
  have en41 : sN S41 = 34 := p41.1
  rw [en41]
  have p42 : pS (sPutR (sNew S41 13 2548) 31 2 (some 34)) 35 [(31, 2, 34), (31, 1, 33), (31, 0, 32), (24, 2, 30), (24, 1, 29), (24, 0, 25), (25, 2, 28), (25, 1, 27), (25, 0, 26), (0, 12, 23), (0, 7, 19), (19, 4, 22), (19, 3, 21), (19, 2, 20), (0, 6, 15), (15, 4, 18), (15, 3, 17), (15, 2, 16), (0, 5, 11), (11, 4, 14), (11, 3, 13), (11, 2, 12), (0, 4, 10), (0, 3, 9), (0, 2, 6), (6, 2, 8), (6, 1, 7), (0, 1, 3), (3, 2, 5), (3, 1, 4), (0, 0, 1), (1, 0, 2)] := (p41.new (by decide) (by decide)).put (by decide) (by decide)
  have z42 := z41.new p41
  generalize sPutR (sNew S41 13 2548) 31 2 (some 34) = S42 at p42 ⊢
  generalize iNew S41 I41 = I42 at z42 ⊢
  generalize lNew S41 L41 = L42
  refine B_X7_init_31 hK10 (kh0_0 := by rw [((p42.new (kd := 13) (ln := 2548) (by decide) (by decide)).2.1 31 (by decide)).1]; rfl) (k := ?_)
  have en42 : sN S42 = 35 := p42.1
  rw [en42]
  have p43 : pS (sPutR (sNew S42 13 2548) 31 3 (some 35)) 36 [(31, 3, 35), (31, 2, 34), (31, 1, 33), (31, 0, 32), (24, 2, 30), (24, 1, 29), (24, 0, 25), (25, 2, 28), (25, 1, 27), (25, 0, 26), (0, 12, 23), (0, 7, 19), (19, 4, 22), (19, 3, 21), (19, 2, 20), (0, 6, 15), (15, 4, 18), (15, 3, 17), (15, 2, 16), (0, 5, 11), (11, 4, 14), (11, 3, 13), (11, 2, 12), (0, 4, 10), (0, 3, 9), (0, 2, 6), (6, 2, 8), (6, 1, 7), (0, 1, 3), (3, 2, 5), (3, 1, 4), (0, 0, 1), (1, 0, 2)] := (p42.new (by decide) (by decide)).put (by decide) (by decide)
  have z43 := z42.new p42
  generalize sPutR (sNew S42 13 2548) 31 3 (some 35) = S43 at p43 ⊢
  generalize iNew S42 I42 = I43 at z43 ⊢
  generalize lNew S42 L42 = L43
  refine B_X7_init_40 hK10 (kh0_0 := by rw [((p43.new (kd := 13) (ln := 324) (by decide) (by decide)).2.1 31 (by decide)).1]; rfl) (k := ?_)
  have en43 : sN S43 = 36 := p43.1
  rw [en43]
  have p44 : pS (sPutR (sNew S43 13 324) 31 4 (some 36)) 37 [(31, 4, 36), (31, 3, 35), (31, 2, 34), (31, 1, 33), (31, 0, 32), (24, 2, 30), (24, 1, 29), (24, 0, 25), (25, 2, 28), (25, 1, 27), (25, 0, 26), (0, 12, 23), (0, 7, 19), (19, 4, 22), (19, 3, 21), (19, 2, 20), (0, 6, 15), (15, 4, 18), (15, 3, 17), (15, 2, 16), (0, 5, 11), (11, 4, 14), (11, 3, 13), (11, 2, 12), (0, 4, 10), (0, 3, 9), (0, 2, 6), (6, 2, 8), (6, 1, 7), (0, 1, 3), (3, 2, 5), (3, 1, 4), (0, 0, 1), (1, 0, 2)] := (p43.new (by decide) (by decide)).put (by decide) (by decide)
  have z44 := z43.new p43
  generalize sPutR (sNew S43 13 324) 31 4 (some 36) = S44 at p44 ⊢
  generalize iNew S43 I43 = I44 at z44 ⊢
  generalize lNew S43 L43 = L44
  refine B_X7_init_49 hK10 (kh0_0 := by rw [((p44.new (kd := 13) (ln := 324) (by decide) (by decide)).2.1 31 (by decide)).1]; rfl) (k := ?_)
  have en44 : sN S44 = 37 := p44.1
  rw [en44]
  have p45 : pS (sPutR (sNew S44 13 324) 31 5 (some 37)) 38 [(31, 5, 37), (31, 4, 36), (31, 3, 35), (31, 2, 34), (31, 1, 33), (31, 0, 32), (24, 2, 30), (24, 1, 29), (24, 0, 25), (25, 2, 28), (25, 1, 27), (25, 0, 26), (0, 12, 23), (0, 7, 19), (19, 4, 22), (19, 3, 21), (19, 2, 20), (0, 6, 15), (15, 4, 18), (15, 3, 17), (15, 2, 16), (0, 5, 11), (11, 4, 14), (11, 3, 13), (11, 2, 12), (0, 4, 10), (0, 3, 9), (0, 2, 6), (6, 2, 8), (6, 1, 7), (0, 1, 3), (3, 2, 5), (3, 1, 4), (0, 0, 1), (1, 0, 2)] := (p44.new (by decide) (by decide)).put (by decide) (by decide)
  have z45 := z44.new p44
  generalize sPutR (sNew S44 13 324) 31 5 (some 37) = S45 at p45 ⊢
  generalize iNew S44 I44 = I45 at z45 ⊢
  generalize lNew S44 L44 = L45
  refine B_X7_init_58 hK10 (kh0_0 := by rw [((p45.new (kd := 13) (ln := 324) (by decide) (by decide)).2.1 31 (by decide)).1]; rfl) (k := ?_)
  have en45 : sN S45 = 38 := p45.1
  rw [en45]
  have p46 : pS (sPutR (sNew S45 13 324) 31 6 (some 38)) 39 [(31, 6, 38), (31, 5, 37), (31, 4, 36), (31, 3, 35), (31, 2, 34), (31, 1, 33), (31, 0, 32), (24, 2, 30), (24, 1, 29), (24, 0, 25), (25, 2, 28), (25, 1, 27), (25, 0, 26), (0, 12, 23), (0, 7, 19), (19, 4, 22), (19, 3, 21), (19, 2, 20), (0, 6, 15), (15, 4, 18), (15, 3, 17), (15, 2, 16), (0, 5, 11), (11, 4, 14), (11, 3, 13), (11, 2, 12), (0, 4, 10), (0, 3, 9), (0, 2, 6), (6, 2, 8), (6, 1, 7), (0, 1, 3), (3, 2, 5), (3, 1, 4), (0, 0, 1), (1, 0, 2)] := (p45.new (by decide) (by decide)).put (by decide) (by decide)
  have z46 := z45.new p45
  generalize sPutR (sNew S45 13 324) 31 6 (some 38) = S46 at p46 ⊢
  generalize iNew S45 I45 = I46 at z46 ⊢
  generalize lNew S45 L45 = L46
  refine B_X7_init_67 hK10 (kh0_0 := by rw [((p46.new (kd := 13) (ln := 324) (by decide) (by decide)).2.1 31 (by decide)).1]; rfl) (k := ?_)
  have en46 : sN S46 = 39 := p46.1
  rw [en46]
  have p47 : pS (sPutR (sNew S46 13 324) 31 7 (some 39)) 40 [(31, 7, 39), (31, 6, 38), (31, 5, 37), (31, 4, 36), (31, 3, 35), (31, 2, 34), (31, 1, 33), (31, 0, 32), (24, 2, 30), (24, 1, 29), (24, 0, 25), (25, 2, 28), (25, 1, 27), (25, 0, 26), (0, 12, 23), (0, 7, 19), (19, 4, 22), (19, 3, 21), (19, 2, 20), (0, 6, 15), (15, 4, 18), (15, 3, 17), (15, 2, 16), (0, 5, 11), (11, 4, 14), (11, 3, 13), (11, 2, 12), (0, 4, 10), (0, 3, 9), (0, 2, 6), (6, 2, 8), (6, 1, 7), (0, 1, 3), (3, 2, 5), (3, 1, 4), (0, 0, 1), (1, 0, 2)] := (p46.new (by decide) (by decide)).put (by decide) (by decide)
  have z47 := z46.new p46
  generalize sPutR (sNew S46 13 324) 31 7 (some 39) = S47 at p47 ⊢
  generalize iNew S46 I46 = I47 at z47 ⊢
  generalize lNew S46 L46 = L47
  refine B_X7_init_76 hK10 (kh0_0 := by rw [((p47.new (kd := 15) (ln := 324) (by decide) (by decide)).2.1 31 (by decide)).1]; rfl) (k := ?_)
  have en47 : sN S47 = 40 := p47.1
  rw [en47]
  have p48 : pS (sPutR (sNew S47 15 324) 31 8 (some 40)) 41 [(31, 8, 40), (31, 7, 39), (31, 6, 38), (31, 5, 37), (31, 4, 36), (31, 3, 35), (31, 2, 34), (31, 1, 33), (31, 0, 32), (24, 2, 30), (24, 1, 29), (24, 0, 25), (25, 2, 28), (25, 1, 27), (25, 0, 26), (0, 12, 23), (0, 7, 19), (19, 4, 22), (19, 3, 21), (19, 2, 20), (0, 6, 15), (15, 4, 18), (15, 3, 17), (15, 2, 16), (0, 5, 11), (11, 4, 14), (11, 3, 13), (11, 2, 12), (0, 4, 10), (0, 3, 9), (0, 2, 6), (6, 2, 8), (6, 1, 7), (0, 1, 3), (3, 2, 5), (3, 1, 4), (0, 0, 1), (1, 0, 2)] := (p47.new (by decide) (by decide)).put (by decide) (by decide)
  have z48 := z47.new p47
  generalize sPutR (sNew S47 15 324) 31 8 (some 40) = S48 at p48 ⊢
  generalize iNew S47 I47 = I48 at z48 ⊢
  generalize lNew S47 L47 = L48
  refine B_X7_init_85 hK10 (k := ?_)
  refine B_X2_init_40 hK8 (ks0_0 := by rw [(p48.2.1 24 (by decide)).1]; rfl) (k := ?_)
  have p49 : pS (sPutR S48 24 3 (some 31)) 41 [(24, 3, 31), (31, 8, 40), (31, 7, 39), (31, 6, 38), (31, 5, 37), (31, 4, 36), (31, 3, 35), (31, 2, 34), (31, 1, 33), (31, 0, 32), (24, 2, 30), (24, 1, 29), (24, 0, 25), (25, 2, 28), (25, 1, 27), (25, 0, 26), (0, 12, 23), (0, 7, 19), (19, 4, 22), (19, 3, 21), (19, 2, 20), (0, 6, 15), (15, 4, 18), (15, 3, 17), (15, 2, 16), (0, 5, 11), (11, 4, 14), (11, 3, 13), (11, 2, 12), (0, 4, 10), (0, 3, 9), (0, 2, 6), (6, 2, 8), (6, 1, 7), (0, 1, 3), (3, 2, 5), (3, 1, 4), (0, 0, 1), (1, 0, 2)] := p48.put (by decide) (by decide)
  generalize sPutR S48 24 3 (some 31) = S49 at p49 ⊢
  refine B_X2_init_43 hK8 (k := ?_)
  refine B_X11_init_103 hK1 (ks0_0 := by rw [(p49.2.1 0 (by decide)).1]; rfl) (k := ?_)
  have p50 : pS (sPutR S49 0 14 (some 24)) 41 [(0, 14, 24), (24, 3, 31), (31, 8, 40), (31, 7, 39), (31, 6, 38), (31, 5, 37), (31, 4, 36), (31, 3, 35), (31, 2, 34), (31, 1, 33), (31, 0, 32), (24, 2, 30), (24, 1, 29), (24, 0, 25), (25, 2, 28), (25, 1, 27), (25, 0, 26), (0, 12, 23), (0, 7, 19), (19, 4, 22), (19, 3, 21), (19, 2, 20), (0, 6, 15), (15, 4, 18), (15, 3, 17), (15, 2, 16), (0, 5, 11), (11, 4, 14), (11, 3, 13), (11, 2, 12), (0, 4, 10), (0, 3, 9), (0, 2, 6), (6, 2, 8), (6, 1, 7), (0, 1, 3), (3, 2, 5), (3, 1, 4), (0, 0, 1), (1, 0, 2)] := p49.put (by decide) (by decide)
  generalize sPutR S49 0 14 (some 24) = S50 at p50 ⊢
  refine B_X11_init_106 hK1 (kh0_0 := by rw [((p50.new (kd := 13) (ln := 128) (by decide) (by decide)).2.1 0 (by decide)).1]; rfl) (k := ?_)
  have en50 : sN S50 = 41 := p50.1
  rw [en50]
  have p51 : pS (sPutR (sNew S50 13 128) 0 15 (some 41)) 42 [(0, 15, 41), (0, 14, 24), (24, 3, 31), (31, 8, 40), (31, 7, 39), (31, 6, 38), (31, 5, 37), (31, 4, 36), (31, 3, 35), (31, 2, 34), (31, 1, 33), (31, 0, 32), (24, 2, 30), (24, 1, 29), (24, 0, 25), (25, 2, 28), (25, 1, 27), (25, 0, 26), (0, 12, 23), (0, 7, 19), (19, 4, 22), (19, 3, 21), (19, 2, 20), (0, 6, 15), (15, 4, 18), (15, 3, 17), (15, 2, 16), (0, 5, 11), (11, 4, 14), (11, 3, 13), (11, 2, 12), (0, 4, 10), (0, 3, 9), (0, 2, 6), (6, 2, 8), (6, 1, 7), (0, 1, 3), (3, 2, 5), (3, 1, 4), (0, 0, 1), (1, 0, 2)] := (p50.new (by decide) (by decide)).put (by decide) (by decide)
  have z51 := z48.new p50
  generalize sPutR (sNew S50 13 128) 0 15 (some 41) = S51 at p51 ⊢
  generalize iNew S50 I48 = I51 at z51 ⊢
  generalize lNew S50 L48 = L51
  refine B_X11_init_115 hK1 (kh0_0 := by rw [((p51.new (kd := 13) (ln := 128) (by decide) (by decide)).2.1 0 (by decide)).1]; rfl) (k := ?_)
  have en51 : sN S51 = 42 := p51.1
  rw [en51]
  have p52 : pS (sPutR (sNew S51 13 128) 0 16 (some 42)) 43 [(0, 16, 42), (0, 15, 41), (0, 14, 24), (24, 3, 31), (31, 8, 40), (31, 7, 39), (31, 6, 38), (31, 5, 37), (31, 4, 36), (31, 3, 35), (31, 2, 34), (31, 1, 33), (31, 0, 32), (24, 2, 30), (24, 1, 29), (24, 0, 25), (25, 2, 28), (25, 1, 27), (25, 0, 26), (0, 12, 23), (0, 7, 19), (19, 4, 22), (19, 3, 21), (19, 2, 20), (0, 6, 15), (15, 4, 18), (15, 3, 17), (15, 2, 16), (0, 5, 11), (11, 4, 14), (11, 3, 13), (11, 2, 12), (0, 4, 10), (0, 3, 9), (0, 2, 6), (6, 2, 8), (6, 1, 7), (0, 1, 3), (3, 2, 5), (3, 1, 4), (0, 0, 1), (1, 0, 2)] := (p51.new (by decide) (by decide)).put (by decide) (by decide)
  have z52 := z51.new p51
  generalize sPutR (sNew S51 13 128) 0 16 (some 42) = S52 at p52 ⊢
  generalize iNew S51 I51 = I52 at z52 ⊢
  generalize lNew S51 L51 = L52
  refine B_X11_init_124 hK1 (kh0_0 := by rw [((p52.new (kd := 13) (ln := 32) (by decide) (by decide)).2.1 0 (by decide)).1]; rfl) (k := ?_)
  have en52 : sN S52 = 43 := p52.1
  rw [en52]
  have p53 : pS (sPutR (sNew S52 13 32) 0 17 (some 43)) 44 [(0, 17, 43), (0, 16, 42), (0, 15, 41), (0, 14, 24), (24, 3, 31), (31, 8, 40), (31, 7, 39), (31, 6, 38), (31, 5, 37), (31, 4, 36), (31, 3, 35), (31, 2, 34), (31, 1, 33), (31, 0, 32), (24, 2, 30), (24, 1, 29), (24, 0, 25), (25, 2, 28), (25, 1, 27), (25, 0, 26), (0, 12, 23), (0, 7, 19), (19, 4, 22), (19, 3, 21), (19, 2, 20), (0, 6, 15), (15, 4, 18), (15, 3, 17), (15, 2, 16), (0, 5, 11), (11, 4, 14), (11, 3, 13), (11, 2, 12), (0, 4, 10), (0, 3, 9), (0, 2, 6), (6, 2, 8), (6, 1, 7), (0, 1, 3), (3, 2, 5), (3, 1, 4), (0, 0, 1), (1, 0, 2)] := (p52.new (by decide) (by decide)).put (by decide) (by decide)
  have z53 := z52.new p52
  generalize sPutR (sNew S52 13 32) 0 17 (some 43) = S53 at p53 ⊢
  generalize iNew S52 I52 = I53 at z53 ⊢
  generalize lNew S52 L52 = L53
  refine B_X11_init_132 hK1 (kh0_0 := by rw [(p53.2.1 0 (by decide)).1]; rfl) (k := ?_)
  refine s_forget0 (by rw [(p53.2.1 0 (by decide)).1]; rfl) (p53.2.2 (0, 15, 41) (by decide)).2 (p53.2.2 (0, 16, 42) (by decide)).2 (p53.2.2 (0, 17, 43) (by decide)).2 (by rw [(p53.2.1 41 (by decide)).1, (p53.2.1 41 (by decide)).2]; exact ⟨rfl, rfl⟩) (by rw [(p53.2.1 42 (by decide)).1, (p53.2.1 42 (by decide)).2]; exact ⟨rfl, rfl⟩) (by rw [(p53.2.1 43 (by decide)).1, (p53.2.1 43 (by decide)).2]; exact ⟨rfl, rfl⟩) (fun J F f1 f2 => ?_)
  refine B_X11_init_136 hK1 (k := k _ J _ p53 (fun x y h1 h2 => ?_) f1 f2)
  rw [F x y (by simp <;> omega) (by simp)]
  exact z53 x y h1
