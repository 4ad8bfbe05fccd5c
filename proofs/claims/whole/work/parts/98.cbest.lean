/-! the class: the best places -/
theorem FrF.k {I J : Nat → Nat → Int} (F : FrF I J) : FrK I J := F.mono (by decide) (by decide)
theorem s_settle {sh : oS} {I : Nat → Nat → Int} {L : Nat → Nat → Int64} {Q : oQ} (hs : Sh sh) {hl hf hw hm P D g : Nat} {code k : Int} (A : LA sh hl hf hw) (M : MA sh hm) (hg : sK sh g = 1) (hg2 : g = 19 ∨ 77 ≤ g) (hL : lHas I hl hf hw P) (hM : mHas I hm D) (hk : I g 0 = k) (hk2 : k = 1 ∨ k = 2) (hc : 0 ≤ code ∧ code ≤ 64)
    (kk : ∀ J, FrK I J → cSt J (if code = 64 then [] else two P (I hw) D k (code / 8) (code % 8)) → Q none (sh, J, L)) : T_X1_settle [vR g, vR 24, vR hl, vR hm, vI code] (sh, I, L) Q := by
  refine And.intro (Nat.le_of_ble_eq_true rfl) (fun K hK => ?_)
  have D2 := hM.2.1
  have F0 : FrK I (u2 I 25 3 0) := Fr.rf.u 25 3 0 (by simp)
  have c0 : cSt (u2 I 25 3 0) [] := cSt.nil uA
  refine B_X1_settle_0 hK hs (n10 := by omega) (kt := fun z => absurd z (by omega)) (kf := fun _ => ?_)
  generalize u2 I 25 3 0 = J0 at *
  refine B_X1_settle_13 hK (n17a := by omega) (kt := fun z => ?_) (kf := fun z => ?_)
  · rw [if_neg (by omega)] at kk
    refine B_X1_settle_21 hK hs (n25a := by omega) (k := ?_)
    have td : code.tdiv 8 = code / 8 := Int.tdiv_eq_ediv_of_nonneg (by omega)
    have tm : code.tmod 8 = code % 8 := Int.tmod_eq_emod_of_nonneg (by omega)
    rw [td, tm]
    have s0 := F0.lm A M
    refine s_addC hs A M (hL.eq s0) (hM.eq s0) (by omega) (by omega) (by decide) c0 (by simp) stOK_nil (fun J1 F1 c1 => ?_)
    rw [s0.2.2.1, addF_10 (by omega)] at c1
    have F01 := F0.t F1.c
    have s1 := F01.lm A M
    have e0 : J1 g 0 = k := by rw [F01.g (by omega)]; exact hk
    refine B_X1_settle_50 hK (kh0_0 := hg) (n55a := by omega) (kt := fun z2 => ?_) (kf := fun z2 => ?_)
    · refine B_X1_settle_73 hK (k := kk J1 F01 ?_)
      unfold two
      rw [if_neg (by omega)]
      exact c1
    · refine B_X1_settle_58 hK hs (k := ?_)
      have len := addF_len (P := P) (wd := I hw) (D := D) (p := code / 8) (f := code / 8) (t := D) (l := [])
      refine s_addC hs A M (hL.eq s1) (hM.eq s1) (by omega) (by omega) (by decide) c1 (by simp at len; omega) (addF_ok (by omega) stOK_nil) (fun J2 F2 c2 => ?_)
      rw [s1.2.2.1, addF_10 (by omega)] at c2
      refine B_X1_settle_73 hK (k := kk J2 (F01.t F2.c) ?_)
      unfold two
      rw [if_pos (by omega)]
      exact c2
  · rw [if_pos (by omega)] at kk
    exact B_X1_settle_20 hK (k := kk J0 F0 c0)
theorem bsS_no {may : Nat → Bool} {E : Nat → Int × Int} {c : Nat} (h : may c = false) : bsS may E (c + 1) = bsS may E c := by
  show (if may c = true ∧ _ then _ else _) = _
  rw [if_neg (fun z => by rw [h] at z; exact absurd z.1 (by decide))]
theorem bsS_rg {may : Nat → Bool} {E : Nat → Int × Int} {a : Nat} : ∀ d, (∀ c, a ≤ c → c < a + d → may c = false) → bsS may E (a + d) = bsS may E a
  | 0, _ => rfl
  | d + 1, h => by
    rw [show a + (d + 1) = a + d + 1 by omega, bsS_no (h (a + d) (by omega) (by omega))]
    exact bsS_rg d (fun c h1 h2 => h c h1 (by omega))
/-- the class's number of a choice -/
def cdC (k : Int) (b : Int) : Int := if b = -1 then 64 else if k = 1 then 9 * b else b
def chR (k : Int) (x : Int × Int × Int) (b h c : Int) : Prop := b = cdC k x.1 ∧ (x.1 ≠ -1 → h = x.2.1 ∧ c = x.2.2)
noncomputable def bsE (P : Int) (F wd men col : Nat → Int) (D k bk bd kp : Int) (c : Nat) : Int × Int := evL P (D - 1) F men col (bTw P wd D k c) bk bd kp 0
set_option maxHeartbeats 4000000 in
theorem s_choice {sh : oS} {I : Nat → Nat → Int} {L : Nat → Nat → Int64} {Q : oQ} (hs : Sh sh) {hl hf hw hm P D g : Nat} {k : Int} (A : LA sh hl hf hw) (M : MA sh hm) (hg : sK sh g = 1) (hg2 : g = 19 ∨ 77 ≤ g) (hL : lHas I hl hf hw P) (hM : mHas I hm D) (hD1 : 1 ≤ D) (hk : I g 0 = k) (hk2 : k = 1 ∨ k = 2)
    (kk : ∀ J, FrK I J → Q (some (vI (cdC k (bsS (bMay P (I hw) k) (bsE P (I hf) (I hw) (I (hm + 1)) (colP P (I (hm + 2)) (fShl 1 (I hm 1) - 1)) D k (I hl 3) (I hl 4) (I hl 5)) (if k = 1 then 8 else 64)).1))) (sh, J, L)) : T_X1_choice [vR g, vR 24, vR hl, vR hm] (sh, I, L) Q := by
  refine And.intro (Nat.le_of_ble_eq_true rfl) (fun K hK => ?_)
  have P2 := hL.2.1
  have hw7 := hL.2.2.2.2.2.2
  generalize hE : bsE P (I hf) (I hw) (I (hm + 1)) (colP P (I (hm + 2)) (fShl 1 (I hm 1) - 1)) D k (I hl 3) (I hl 4) (I hl 5) = E at *
  generalize hmy : bMay P (I hw) k = may at *
  have bnd : ∀ c, -1 ≤ (bsS may E c).1 ∧ (bsS may E c).1 < c := fun c => bsS_bd c
  -- which code stands for a pair
  have cd1 : k = 1 → ∀ c, c < 8 → may c = decide (c < P ∧ I hw c ≠ 0) := fun h1 c hc => by
    rw [← hmy]
    unfold bMay bA
    apply decide_eq_decide.2
    rw [if_pos h1, show c % 8 = c by omega]
    constructor
    · intro z; exact ⟨by omega, z.2.2.2.1⟩
    · intro z; exact ⟨by omega, by omega, Nat.le_refl _, z.2, z.2⟩
  have cd2 : k = 2 → ∀ a b, b < 8 → may (8 * a + b) = decide (a < P ∧ b < P ∧ a ≤ b ∧ I hw a ≠ 0 ∧ I hw b ≠ 0) := fun h1 a b hb => by
    rw [← hmy]
    unfold bMay bA
    apply decide_eq_decide.2
    rw [if_neg (by omega), show (8 * a + b) % 8 = b by omega, show (8 * a + b) / 8 = a by omega]
    constructor
    · intro z; exact ⟨by omega, by omega, z.2.2⟩
    · intro z; exact ⟨by omega, by omega, z.2.2⟩
  -- the value of what is taken so far
  have inb : ∀ (x : Nat) (b h c : Int), x ≤ 64 → chR k (bsS may E x) b h c → 0 ≤ b ∧ b ≤ 63 ∨ b = 64 := fun x b h c hx hr => by
    have a := bnd x
    rw [hr.1]
    unfold cdC
    sorry
  refine B_X1_choice_0 hK (k := ?_)
  sorry
