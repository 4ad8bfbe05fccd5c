/-! the class fills its net -/
/-- a net in the midst of being filled -/
def cSt2 (I J : Nat → Nat → Int) (m N : Nat) (u v : Nat → Nat) (w cp : Nat → Int) : Prop := Fr [33, 37, 38, 39, 40] [(31, 11), (31, 12)] I J ∧ nNet J m N u v w ∧ (∀ e, e < 2 * m → 0 ≤ J 33 e) ∧ (∀ i, i < m → J 33 (2 * i) + J 33 (2 * i + 1) = cp i) ∧ balanced N m u v 0 1 (fl (J 33)) ∧ J 31 11 = bal m u v (fl (J 33)) 1 ∧ J 31 12 = sm m (fun i => w i * fl (J 33) i)
theorem nNet.fr2 {I J : Nat → Nat → Int} {m N : Nat} {u v : Nat → Nat} {w : Nat → Int} {hl : List Nat} {fl : List (Nat × Nat)} (h : nNet I m N u v w) (F : Fr hl fl I J) (q1 : ∀ x ∈ [31, 32, 34, 35, 36], x ∉ hl) (q2 : ∀ x ∈ fl, x ∉ [(31, 10), (31, 9)] ∧ x.1 ≠ 32 ∧ x.1 ≠ 34 ∧ x.1 ≠ 35 ∧ x.1 ≠ 36) : nNet J m N u v w :=
  h.fr (F 31 10 (q1 31 (by decide)) (fun z => (q2 _ z).1 (by decide))) (F 31 9 (q1 31 (by decide)) (fun z => (q2 _ z).1 (by decide))) (fn_eq F 32 (q1 32 (by decide)) (fun x hx => (q2 x hx).2.1)) (fn_eq F 34 (q1 34 (by decide)) (fun x hx => (q2 x hx).2.2.1)) (fn_eq F 35 (q1 35 (by decide)) (fun x hx => (q2 x hx).2.2.2.1)) (fn_eq F 36 (q1 36 (by decide)) (fun x hx => (q2 x hx).2.2.2.2))
theorem room_bd {m : Nat} {rm cp : Nat → Int} (h0 : ∀ e, e < 2 * m → 0 ≤ rm e) (hc : ∀ i, i < m → rm (2 * i) + rm (2 * i + 1) = cp i) (hcp : ∀ i, i < m → cp i ≤ 1000000000) : ∀ e, e < 2 * m → 0 ≤ rm e ∧ rm e ≤ 2000000000 := fun e he => by
  have a := h0 e he
  have b := h0 (mate e) (mate_lt he)
  have c := hc (e / 2) (by omega)
  have d := hcp (e / 2) (by omega)
  rcases e_cases e with q | q
  · rw [q, mate_ev] at b
    rw [← q] at b c
    omega
  · rw [q, mate_od] at b
    rw [← q] at c
    omega
theorem fl_bd {m : Nat} {rm cp : Nat → Int} (h0 : ∀ e, e < 2 * m → 0 ≤ rm e) (hc : ∀ i, i < m → rm (2 * i) + rm (2 * i + 1) = cp i) : ∀ i, i < m → 0 ≤ fl rm i ∧ fl rm i ≤ cp i := fun i hi => by
  have a := h0 (2 * i) (by omega)
  have b := h0 (2 * i + 1) (by omega)
  have c := hc i hi
  unfold fl
  omega
/-- a cheapest way is a way of such edges -/
theorem adm_way {I : Nat → Nat → Int} {m N : Nat} {u v : Nat → Nat} {w : Nat → Int} (hl : ∀ i, i < m → u i < N ∧ v i < N) (hw : ∀ i, i < m → -7 ≤ w i ∧ w i ≤ 7) (hN : N ≤ 324) {pi : Nat → Int} (hp : pot (2 * m) (eF u v) (eT u v) (I 33) (eC w) pi) (hrel : relI N (2 * m) (eF u v) (eT u v) (I 33) (eC w) 0 7 268435456 (I 37)) (hcl : ∀ e, e < 2 * m → 0 < I 33 e → I 37 (eF u v e) < 268435456 → I 37 (eT u v e) ≤ I 37 (eF u v e) + eC w e) {R : Nat → Prop} (h0 : R 0) (hR : ∀ e, adm I m u v w e → R (eF u v e) → R (eT u v e)) : ∀ (h n : Nat) (d : Int), n < N → opt (2 * m) (eF u v) (eT u v) (I 33) (eC w) 0 n d h → R n ∧ I 37 n = d := by
  have hcb : ∀ e, e < 2 * m → -7 ≤ eC w e ∧ eC w e ≤ 7 := fun e he => eC_bd hw he
  have hfl : ∀ e, e < 2 * m → eF u v e < N := fun e he => (e_lt hl he).1
  have htl : ∀ e, e < 2 * m → eT u v e < N := fun e he => (e_lt hl he).2
  have eq : ∀ n d h, n < N → opt (2 * m) (eF u v) (eT u v) (I 33) (eC w) 0 n d h → I 37 n = d := fun n d h hn o => by
    obtain ⟨a1, a2⟩ := relI_end hp (by decide) hfl htl (fun e he => (hcb e he).2) (by omega) hrel hcl _ _ _ o.1
    obtain ⟨⟨k, hk⟩, -⟩ := hrel.2.2 n hn a1
    have := o.2.1 _ _ hk
    omega
  intro h
  induction h with
  | zero =>
    intro n d hn o
    refine ⟨?_, eq n d 0 hn o⟩
    rw [o.1.1]
    exact h0
  | succ h ih =>
    intro n d hn o
    obtain ⟨e, a1, a2, a3, a4⟩ := opt_pred o
    obtain ⟨b1, b2⟩ := ih _ _ (hfl e a1) a4
    have b3 := eq n d _ hn o
    refine ⟨?_, b3⟩
    rw [← a3]
    refine hR e ⟨a1, a2, ?_⟩ b1
    rw [b2, a3, b3]
    omega
set_option maxHeartbeats 4000000 in
theorem s_cfill {sh : oS} {I : Nat → Nat → Int} {L : Nat → Nat → Int64} {Q : oQ} (hs : Sh sh) {m N : Nat} {u v : Nat → Nat} {w cp : Nat → Int} (hN2 : 2 ≤ N) (hl : ∀ i, i < m → u i < N ∧ v i < N) (hw : ∀ i, i < m → -7 ≤ w i ∧ w i ≤ 7) (hcp : ∀ i, i < m → cp i ≤ 1000000000) (hV : sm m (fun i => if v i = 1 then cp i else 0) ≤ 999) (h : cSt2 I I m N u v w cp) (hpot : ∃ pi, pot (2 * m) (eF u v) (eT u v) (I 33) (eC w) pi) (hflow : 0 ≤ I 31 11)
    (k : ∀ J, cSt2 I J m N u v w cp → (∃ pi, pot (2 * m) (eF u v) (eT u v) (J 33) (eC w) pi) → (∃ R : Nat → Bool, R 0 = true ∧ R 1 = false ∧ ∀ e, e < 2 * m → 0 < J 33 e → R (eF u v e) = true → R (eT u v e) = true) → Q none (sh, J, L)) : T_X7_fill [vR 31] (sh, I, L) Q := by
  refine And.intro (Nat.le_of_ble_eq_true rfl) (fun K hK => ?_)
  have hcb : ∀ e, e < 2 * m → -7 ≤ eC w e ∧ eC w e ≤ 7 := fun e he => eC_bd hw he
  have hfl : ∀ e, e < 2 * m → eF u v e < N := fun e he => (e_lt hl he).1
  have htl : ∀ e, e < 2 * m → eT u v e < N := fun e he => (e_lt hl he).2
  have most : ∀ {J : Nat → Nat → Int}, cSt2 I J m N u v w cp → J 31 11 ≤ 999 := fun {J} hJ => by
    obtain ⟨-, -, a1, a2, -, a3, -⟩ := hJ
    have := bal_le (u := u) (v := v) (fl_bd a1 a2) 1
    omega
  have outer : ∀ (d round : Nat) (J : Nat → Nat → Int), round + d = 1000 → cSt2 I J m N u v w cp → (∃ pi, pot (2 * m) (eF u v) (eT u v) (J 33) (eC w) pi) → (round : Int) ≤ J 31 11 → K 2 [some (vR 31), some (vI (round : Int)), none, none] [] (sh, J, L) (0, 0) := by
    intro d
    induction d with
    | zero =>
      intro round J hd hJ hpi hfl2
      have := most hJ
      omega
    | succ d ih =>
      intro round J hd hJ hpi hfl2
      have mo := most hJ
      obtain ⟨FJ, hn, hr0, hcap, hbal, hfw, hco⟩ := id hJ
      obtain ⟨pi, hp⟩ := hpi
      have n4 := hn.2.2.2.1
      refine B_X7_fill_2 hK (n6a := by omega) (kt := fun z => absurd z (by omega)) (kf := fun _ => ?_)
      refine B_X7_fill_9 hK hs (k := ?_)
      refine s_measure hs hn hN2 hl hw (room_bd hr0 hcap hcp) hp (fun J1 F1 hrel hcl r hr => ?_)
      have e33 : J1 33 = J 33 := fn_eq F1 33 (by decide) (by simp)
      have hJ1 : cSt2 I J1 m N u v w cp := by
        refine ⟨FJ.tr F1 (by decide) (by decide) (by decide) (by decide), hn.fr2 F1 (by decide) (by simp), ?_, ?_, ?_, ?_, ?_⟩
        · rw [e33]; exact hr0
        · rw [e33]; exact hcap
        · rw [e33]; exact hbal
        · rw [e33, F1 31 11 (by decide) (by simp)]; exact hfw
        · rw [e33, F1 31 12 (by decide) (by simp)]; exact hco
      rw [← e33] at hrel hcl hp
      refine B_X7_fill_13 hK (n13 := by omega) (kt := fun z => ?_) (kf := fun z => ?_)
      · -- the end cannot be come to
        have no : ¬ J1 37 1 < 268435456 := by
          rcases hr with ⟨y, -⟩ | ⟨-, y⟩
          · omega
          · exact y
        refine B_X7_fill_96 hK (k := ?_)
        refine k J1 hJ1 ⟨pi, hp⟩ ⟨fun n => decide (J1 37 n < 268435456), by simp [hrel.1], by simp; omega, fun e he hre hR => ?_⟩
        simp only [decide_eq_true_eq] at hR ⊢
        have a1 := hcl e he hre hR
        have a2 := relI_up (by decide) hrel (hfl e he) hR
        have a3 := hcb e he
        omega
      have yes : J1 37 1 < 268435456 := by
        rcases hr with ⟨-, y⟩ | ⟨y, -⟩
        · exact y
        · omega
      have db : ∀ n, n < N → -2268 ≤ J1 37 n ∧ J1 37 n ≤ 268435456 := fun n hn => by
        have a := relI_low hp (by decide) (by decide) hfl (fun e he => (hcb e he).1) hrel hn
        have b := hrel.2.1 n hn
        omega
      obtain ⟨pj, hpj, hpj2⟩ := pot_far hl (by decide) hcb (by omega) hp hrel hcl
      have n3 : J1 31 9 = (N : Int) := hJ1.2.1.2.2.1
      refine B_X7_fill_16 hK hs (c30 := by omega) (k := ?_)
      have tN : (J1 31 9).toNat = N := by omega
      rw [tN]
      have FC : Fr [39] [] J1 (oCpy J1 36 0 39 0 N) := fun hh kk q1 q2 => by
        unfold oCpy
        rw [if_neg (by simpa using q1)]
      have c39 : ∀ n, n < N → (oCpy J1 36 0 39 0 N) 39 n = lst (eF u v) n (2 * m) := fun n hn => by
        unfold oCpy
        rw [if_pos rfl, if_pos (by omega), show 0 + (n - 0) = n by omega]
        exact hJ1.2.1.2.2.2.2.2 n (by omega)
      generalize oCpy J1 36 0 39 0 N = C0 at *
      -- seen is wiped
      have wipe : ∀ (d2 x : Nat) (C : Nat → Nat → Int), x + d2 = N → Fr [39, 40] [] J1 C → (∀ n, n < N → C 39 n = lst (eF u v) n (2 * m)) → (∀ n, n < x → C 40 n = 0) → (∀ C2, Fr [39, 40] [] J1 C2 → (∀ n, n < N → C2 40 n = 0 ∧ C2 39 n = lst (eF u v) n (2 * m)) → K 56 [some (vR 31), some (vI (round : Int)), none, none] [] (sh, C2, L) (0, 0)) → K 35 [some (vR 31), some (vI (round : Int)), some (vI (x : Int)), none] [] (sh, C, L) (0, 0) := by
        intro d2
        induction d2 with
        | zero =>
          intro x C hx FC2 q1 q2 cont
          refine B_X7_fill_35 hK hs (n40a := by omega) (n40b := by rw [FC2 31 9 (by decide) (by simp)]; omega) (kt := fun _ => ?_) (kf := fun y => absurd (by rw [FC2 31 9 (by decide) (by simp)]; omega) y)
          exact cont C FC2 (fun n hn => ⟨q2 n (by omega), q1 n hn⟩)
        | succ d2 ihw =>
          intro x C hx FC2 q1 q2 cont
          refine B_X7_fill_35 hK hs (n40a := by omega) (n40b := by rw [FC2 31 9 (by decide) (by simp)]; omega) (kt := fun y => absurd y (by rw [FC2 31 9 (by decide) (by simp)]; omega)) (kf := fun _ => ?_)
          refine B_X7_fill_43 hK hs (b49 := by omega) (k := ?_)
          rw [Int.toNat_natCast]
          refine ihw (x + 1) _ (by omega) (FC2.u 40 _ _ (by simp)) (fun n hn => by rw [uN (by decide)]; exact q1 n hn) (fun n hn => ?_) cont
          by_cases e : n = x
          · rw [e, uA]
          · rw [uK e]; exact q2 n (by omega)
      refine wipe N 0 C0 (by omega) (FC.mono (by simp) (by simp)) c39 (fun n hn => absurd hn (by omega)) (fun C FC2 q => ?_)
      -- paths of this round
      have inner : ∀ (d2 path : Nat) (Z : Nat → Nat → Int) (len : Int), path + d2 = 1000 → cSt2 I Z m N u v w cp → Z 37 = J1 37 → pot (2 * m) (eF u v) (eT u v) (Z 33) (eC w) pj → thS Z m N u v → (len = 0 ∨ ∃ (l : Nat) (nd g : Nat → Nat), len = (l : Int) ∧ 1 ≤ l ∧ l < 324 ∧ nd l = 1 ∧ pth Z Z m N u v w l nd g) → (round : Int) ≤ Z 31 11 → (path = 0 → len ≠ 0) → (path ≠ 0 → (round : Int) + 1 ≤ Z 31 11) → K 63 [some (vR 31), some (vI (round : Int)), some (vI len), some (vI (path : Int))] [] (sh, Z, L) (0, 0) := by
        intro d2
        induction d2 with
        | zero =>
          intro path Z len hpd hZ z37 zp zS zl zf z0 z1
          refine B_X7_fill_63 hK (n67a := by omega) (kt := fun _ => ?_) (kf := fun y => absurd (by omega) y)
          refine B_X7_fill_90 hK (k := ?_)
          exact ih (round + 1) Z (by omega) hZ ⟨pj, zp⟩ (by have := z1 (by omega); omega)
        | succ d2 ihp =>
          intro path Z len hpd hZ z37 zp zS zl zf z0 z1
          refine B_X7_fill_63 hK (n67a := by omega) (kt := fun y => absurd y (by omega)) (kf := fun _ => ?_)
          have lr : inR len := by
            rcases zl with y | ⟨l, nd, g, y, y1, y2, -⟩ <;> omega
          refine B_X7_fill_70 hK (n71 := lr) (kt := fun y => ?_) (kf := fun y => ?_)
          · refine B_X7_fill_90 hK (k := ?_)
            have len0 : len = 0 := by
              rcases zl with y2 | ⟨l, nd, g, y2, y3, y4, -⟩ <;> omega
            exact ih (round + 1) Z (by omega) hZ ⟨pj, zp⟩ (by have := z1 (fun y2 => z0 y2 len0); omega)
          obtain ⟨l, nd, g, y1, y2, y3, y4, y5⟩ : ∃ (l : Nat) (nd g : Nat → Nat), len = (l : Int) ∧ 1 ≤ l ∧ l < 324 ∧ nd l = 1 ∧ pth Z Z m N u v w l nd g := by
            rcases zl with y2 | y2
            · omega
            · exact y2
          subst y1
          obtain ⟨FZ, zn, zr0, zcap, zbal, zfw, zco⟩ := id hZ
          refine B_X7_fill_74 hK hs (k := ?_)
          have fin : ∀ i, i ≤ l → Z 37 (nd i) < 268435456 := by
            intro i
            induction i with
            | zero => intro _; rw [y5.1, z37, hrel.1]; decide
            | succ i ihi =>
              intro hi
              have a1 := ihi (by omega)
              obtain ⟨-, b2, b3, b4⟩ := y5.2.1 i (by omega)
              have b5 := b2.2.2
              rw [b3, b4] at b5
              rw [z37] at a1 b5 ⊢
              have a2 := relI_up (by decide) hrel (y5.2.2.2 i (by omega)) a1
              have a3 := hcb _ b2.1
              omega
          have zb := room_bd zr0 zcap hcp
          refine s_push hs zn zr0 (fun e he => (zb e he).2) zcap zp y5 ⟨y2, y3⟩ (fun i hi => ?_) zS.1 (fun Y x FY x0 yr0 ycap yp ybal yco yfw yS => ?_)
          · rw [z37]
            have := fin i hi
            rw [z37] at this
            exact hpj2 _ (y5.2.2.2 i hi) this
          rw [y4] at ybal
          have FIY : Fr [33, 37, 38, 39, 40] [(31, 11), (31, 12)] I Y := FZ.tr FY (by decide) (by decide) (by decide) (by decide)
          have yn : nNet Y m N u v w := zn.fr2 FY (by decide) (by decide)
          have hY : cSt2 I Y m N u v w cp := by
            refine ⟨FIY, yn, yr0, ycap, fun n hn h0 h1 => ?_, ?_, ?_⟩
            · rw [ybal n, if_neg h1, if_neg h0, zbal n hn h0 h1]; rfl
            · rw [yfw, ybal 1, if_pos rfl, if_neg (by decide), zfw]; omega
            · rw [yco, ← zco]; omega
          have y37 : Y 37 = J1 37 := by rw [fn_eq FY 37 (by decide) (by decide)]; exact z37
          have ySS : thS Y m N u v := ⟨yS, fun n hn => by rw [FY 39 n (by decide) (by simp)]; exact zS.2 n hn⟩
          refine B_X7_fill_79 hK hs (k := ?_)
          have yb := room_bd yr0 ycap hcp
          refine s_thread hs yn hN2 hl hw yb (by rw [y37]; exact db) ySS False (fun y => y.elim) (fun X r FX hSX hX => ?_)
          refine B_X7_fill_83 hK (k := ?_)
          have x33 : X 33 = Y 33 := fn_eq FX 33 (by decide) (by simp)
          have x37 : X 37 = Y 37 := fn_eq FX 37 (by decide) (by simp)
          have hXX : cSt2 I X m N u v w cp := by
            obtain ⟨-, -, c1, c2, c3, c4, c5⟩ := hY
            refine ⟨FIY.tr FX (by decide) (by decide) (by decide) (by decide), yn.fr2 FX (by decide) (by simp), by rw [x33]; exact c1, by rw [x33]; exact c2, by rw [x33]; exact c3, by rw [x33, FX 31 11 (by decide) (by simp)]; exact c4, by rw [x33, FX 31 12 (by decide) (by simp)]; exact c5⟩
          have fX : X 31 11 = Z 31 11 + x := by rw [FX 31 11 (by decide) (by simp)]; exact yfw
          refine ihp (path + 1) X r (by omega) hXX (by rw [x37]; exact y37) (by rw [x33]; exact yp) hSX ?_ (by omega) (fun y => absurd y (by omega)) (fun _ => by omega)
          rcases hX with ⟨y6, -⟩ | ⟨l2, nd2, g2, y6, y7, y8, y9, y10⟩
          · exact Or.inl y6
          · refine Or.inr ⟨l2, nd2, g2, y6, y7, y8, y9, y10.1, fun i hi => ?_, y10.2.2⟩
            obtain ⟨b1, b2, b3, b4⟩ := y10.2.1 i hi
            refine ⟨b1, ?_, b3, b4⟩
            unfold adm
            rw [x33, x37]
            exact b2
      have c33 : C 33 = J1 33 := fn_eq FC2 33 (by decide) (by simp)
      have c37 : C 37 = J1 37 := fn_eq FC2 37 (by decide) (by simp)
      have hC : cSt2 I C m N u v w cp := by
        obtain ⟨c0, c6, c1, c2, c3, c4, c5⟩ := hJ1
        refine ⟨c0.tr FC2 (by decide) (by decide) (by decide) (by decide), c6.fr2 FC2 (by decide) (by simp), by rw [c33]; exact c1, by rw [c33]; exact c2, by rw [c33]; exact c3, by rw [c33, FC2 31 11 (by decide) (by simp)]; exact c4, by rw [c33, FC2 31 12 (by decide) (by simp)]; exact c5⟩
      have cS : thS C m N u v := ⟨fun n hn => Or.inl (q n hn).1, fun n hn => ⟨2 * m, Nat.le_refl _, (q n hn).2⟩⟩
      refine B_X7_fill_56 hK hs (k := ?_)
      refine s_thread hs hC.2.1 hN2 hl hw (room_bd hC.2.2.1 hC.2.2.2.1 hcp) (by rw [c37]; exact db) cS True (fun _ => q) (fun X r FX hSX hX => ?_)
      refine B_X7_fill_60 hK (k := ?_)
      have x33 : X 33 = C 33 := fn_eq FX 33 (by decide) (by simp)
      have x37 : X 37 = C 37 := fn_eq FX 37 (by decide) (by simp)
      have hXX : cSt2 I X m N u v w cp := by
        obtain ⟨c0, c6, c1, c2, c3, c4, c5⟩ := hC
        refine ⟨c0.tr FX (by decide) (by decide) (by decide) (by decide), c6.fr2 FX (by decide) (by simp), by rw [x33]; exact c1, by rw [x33]; exact c2, by rw [x33]; exact c3, by rw [x33, FX 31 11 (by decide) (by simp)]; exact c4, by rw [x33, FX 31 12 (by decide) (by simp)]; exact c5⟩
      have ff : X 31 11 = J 31 11 := by rw [FX 31 11 (by decide) (by simp), FC2 31 11 (by decide) (by simp), F1 31 11 (by decide) (by simp)]
      refine inner 1000 0 X r (by omega) hXX (by rw [x37, c37]) (by rw [x33, c33]; exact hpj) hSX ?_ (by omega) (fun _ y => ?_) (fun y => absurd rfl y)
      · rcases hX with ⟨y6, -⟩ | ⟨l2, nd2, g2, y6, y7, y8, y9, y10⟩
        · exact Or.inl y6
        · refine Or.inr ⟨l2, nd2, g2, y6, y7, y8, y9, y10.1, fun i hi => ?_, y10.2.2⟩
          obtain ⟨b1, b2, b3, b4⟩ := y10.2.1 i hi
          refine ⟨b1, ?_, b3, b4⟩
          unfold adm
          rw [x33, x37]
          exact b2
      · rcases hX with ⟨-, y6⟩ | ⟨l2, nd2, g2, y6, y7, -⟩
        · obtain ⟨R, R0, R1, RR⟩ := y6 trivial
          obtain ⟨⟨kk, hk⟩, -⟩ := hrel.2.2 1 (by omega) yes
          obtain ⟨dd, hh, oo⟩ := opt_ex hp hk
          refine R1 (adm_way (I := J1) hl hw n4 hp hrel hcl R0 (fun e he => RR e ?_) hh 1 dd (by omega) oo).1
          unfold adm at he ⊢
          rw [c33, c37]
          exact he
        · omega
  refine B_X7_fill_0 hK (k := ?_)
  exact outer 1000 0 I (by omega) h hpot (by omega)
