/-! class and reference, call by call: the same answer, and Rel again -/
def Nx (TM : List oA → oM → oQ → Prop) (av : List oA) (v : oA) (b : Nat) (mm : oM) : Prop := Sh mm.1 ∧ ∀ Q : oQ, (∀ sh' Z L', Sh sh' → Rel sh' Z b 0 → Q (some v) (sh', Z, L')) → TM (vR 44 :: av) mm Q
def PrI (TC TM : List oA → oM → oQ → Prop) (av : List oA) (b : Nat) (mm : oM) : Prop := ∀ Q : oQ, (∀ (x : Int) mm', Nx TM av (vI x) (b + 1) mm' → Q (some (vI x)) mm') → TC (vR 0 :: av) mm Q
def PrL (TC TM : List oA → oM → oQ → Prop) (av : List oA) (b : Nat) (mm : oM) : Prop := ∀ Q : oQ, (∀ (x : Int64) mm', Nx TM av (vL x) (b + 1) mm' → Q (some (vL x)) mm') → TC (vR 0 :: av) mm Q
theorem Rel.up {sh : oS} {I : Nat → Nat → Int} {b c : Nat} {a : Int} (R : Rel sh I b a) (h : b ≤ c) : Rel sh I c a := by
  obtain ⟨hn, ht, ⟨s1, s2, s3, s4, s5, s6, s7⟩, r⟩ := R
  exact ⟨hn, ht, ⟨s1, s2, s3, s4, s5, s6, by omega⟩, r⟩
theorem Rel.u1 {sh : oS} {I : Nat → Nat → Int} {b : Nat} {a : Int} (R : Rel sh I b a) : Rel sh I (b + 1) a := R.up (Nat.le_succ b)
theorem Rel.ok {sh : oS} {I : Nat → Nat → Int} {b : Nat} {a : Int} (R : Rel sh I b a) : mOK I := by
  obtain ⟨_, _, R⟩ := R
  exact R.1.1
theorem Rel.sm {sh : oS} {I : Nat → Nat → Int} {b : Nat} {a : Int} (R : Rel sh I b a) : I 44 3 ≤ 99 ∧ I 44 5 ≤ 9 ∧ ∀ p, p < 8 → I 45 p ≤ 999 := by
  obtain ⟨_, _, R⟩ := R
  exact R.1.2.1
theorem Rel.fv {sh : oS} {I : Nat → Nat → Int} {b : Nat} {a : Int} (R : Rel sh I b a) : 0 ≤ I 44 21 ∧ I 44 21 ≤ 30 := by
  obtain ⟨_, _, R⟩ := R
  exact R.1.2.2.1
theorem Rel.pg {sh : oS} {I : Nat → Nat → Int} {b : Nat} {a : Int} (R : Rel sh I b a) : 0 ≤ I 44 19 ∧ I 44 19 ≤ 60 := by
  obtain ⟨_, _, R⟩ := R
  exact R.1.2.2.2.1
theorem Rel.lt {sh : oS} {I : Nat → Nat → Int} {b : Nat} {a : Int} (R : Rel sh I b a) : ∀ x : Nat, (x : Int) < I 44 19 → 0 ≤ I 56 x ∧ I 56 x ≤ 127 := by
  obtain ⟨_, _, R⟩ := R
  intro x hx
  have := R.1.2.2.2.2.1 x hx
  omega
theorem Rel.im {sh : oS} {I : Nat → Nat → Int} {b : Nat} {a : Int} (R : Rel sh I b a) (hb : b ≤ 10000) : inR (I 44 22) ∧ (I 44 22 ≠ 0 → inR (I 44 23)) ∧ inR (I 44 7) := by
  obtain ⟨_, _, R⟩ := R
  have h1 := R.1.2.2.2.2.2
  rcases R.2.2.2.2.2.2.2.1.2 with z | ⟨z1, z2, z3, z4⟩
  · exact ⟨by omega, fun t => absurd z.1 t, by omega⟩
  · exact ⟨by omega, fun _ => by omega, by omega⟩
theorem pr_at {sh : oS} {I : Nat → Nat → Int} {L : Nat → Nat → Int64} (hs : Sh sh) {b : Nat} (R : Rel sh I b 0) {x0 x1 x2 : Int} (h0 : inR x0) (h1 : inR x1) (h2 : inR x2) : PrI T_X11_at T_X12_at [vI x0, vI x1, vI x2] b (sh, I, L) := by
  intro Q k
  refine c_at hs R h0 h1 h2 (fun J RJ e => k _ _ ⟨hs, fun Q' k' => ?_⟩)
  refine s_mat hs RJ.ok h0 h1 h2 (fun Z F => ?_)
  rw [e_atV e]
  exact k' sh Z L hs (RJ.frQ F).1.u1
theorem pr_stand {sh : oS} {I : Nat → Nat → Int} {L : Nat → Nat → Int64} (hs : Sh sh) {b : Nat} (R : Rel sh I b 0) {x0 x1 x2 : Int} (h0 : inR x0) (h1 : inR x1) (h2 : inR x2) : PrI T_X11_stand T_X12_stand [vI x0, vI x1, vI x2] b (sh, I, L) := by
  intro Q k
  refine c_stand hs R h0 h1 h2 (fun J RJ e => k _ _ ⟨hs, fun Q' k' => ?_⟩)
  refine s_mstand hs RJ.ok h0 h1 h2 (fun Z F => ?_)
  rw [e_staV e]
  exact k' sh Z L hs (RJ.frQ F).1.u1
theorem pr_bakes {sh : oS} {I : Nat → Nat → Int} {L : Nat → Nat → Int64} (hs : Sh sh) {b : Nat} (R : Rel sh I b 0) {x0 x1 x2 x3 : Int} (h0 : inR x0) (h1 : inR x1) (h2 : inR x2) (h3 : inR x3) : PrI T_X11_bakes T_X12_bakes [vI x0, vI x1, vI x2, vI x3] b (sh, I, L) := by
  intro Q k
  refine c_bakes hs R h0 h1 h2 h3 (fun J RJ e => k _ _ ⟨hs, fun Q' k' => ?_⟩)
  refine s_mbakes hs RJ.ok h0 h1 h2 h3 (fun Z F => ?_)
  rw [e_bakV e]
  exact k' sh Z L hs (RJ.frQ F).1.u1
theorem pr_hungry {sh : oS} {I : Nat → Nat → Int} {L : Nat → Nat → Int64} (hs : Sh sh) {b : Nat} (R : Rel sh I b 0) {x0 x1 x2 : Int} (h0 : inR x0) (h1 : inR x1) (h2 : inR x2) : PrI T_X11_hungry T_X12_hungry [vI x0, vI x1, vI x2] b (sh, I, L) := by
  intro Q k
  refine c_hungry hs R h0 h1 h2 (fun J RJ e => k _ _ ⟨hs, fun Q' k' => ?_⟩)
  refine s_mhungry hs RJ.ok h0 h1 h2 (fun Z F => ?_)
  rw [e_hunV e]
  exact k' sh Z L hs (RJ.frQ F).1.u1
theorem pr_carried {sh : oS} {I : Nat → Nat → Int} {L : Nat → Nat → Int64} (hs : Sh sh) {b : Nat} (R : Rel sh I b 0) {x0 x1 x2 : Int} (h0 : inR x0) (h1 : inR x1) (h2 : inR x2) : PrI T_X11_carried T_X12_carried [vI x0, vI x1, vI x2] b (sh, I, L) := by
  intro Q k
  refine c_carried hs R h0 h1 h2 (fun J RJ e => k _ _ ⟨hs, fun Q' k' => ?_⟩)
  refine s_mcarried hs RJ.ok h0 h1 h2 (fun Z F => ?_)
  rw [e_carV e]
  exact k' sh Z L hs (RJ.frQ F).1.u1
theorem pr_lack {sh : oS} {I : Nat → Nat → Int} {L : Nat → Nat → Int64} (hs : Sh sh) {b : Nat} (R : Rel sh I b 0) {x0 x1 x2 : Int} (h0 : inR x0) (h1 : inR x1) (h2 : inR x2) : PrI T_X11_lack T_X12_lack [vI x0, vI x1, vI x2] b (sh, I, L) := by
  intro Q k
  refine c_lack hs R h0 h1 h2 (fun J RJ e => k _ _ ⟨hs, fun Q' k' => ?_⟩)
  refine s_mlack hs RJ.ok h0 h1 h2 (fun Z F => ?_)
  rw [e_lakV e]
  exact k' sh Z L hs (RJ.frQ F).1.u1
theorem pr_mean {sh : oS} {I : Nat → Nat → Int} {L : Nat → Nat → Int64} (hs : Sh sh) {b : Nat} (R : Rel sh I b 0) {x0 x1 x2 x3 : Int} (h0 : inR x0) (h1 : inR x1) (h2 : inR x2) (h3 : inR x3) : PrI T_X11_mean T_X12_mean [vI x0, vI x1, vI x2, vI x3] b (sh, I, L) := by
  intro Q k
  refine c_mean hs R h0 h1 h2 h3 (fun J RJ e => k _ _ ⟨hs, fun Q' k' => ?_⟩)
  refine s_mmean hs RJ.ok h0 h1 h2 h3 (fun Z F => ?_)
  rw [e_meaV e]
  exact k' sh Z L hs (RJ.frQ F).1.u1
theorem pr_worst {sh : oS} {I : Nat → Nat → Int} {L : Nat → Nat → Int64} (hs : Sh sh) {b : Nat} (R : Rel sh I b 0) {x0 x1 x2 : Int} (h0 : inR x0) (h1 : inR x1) (h2 : inR x2) : PrI T_X11_worst T_X12_worst [vI x0, vI x1, vI x2] b (sh, I, L) := by
  intro Q k
  refine c_worst hs R h0 h1 h2 (fun J RJ e => k _ _ ⟨hs, fun Q' k' => ?_⟩)
  refine s_mworst hs RJ.ok h0 h1 h2 (fun Z F => ?_)
  rw [e_worV e]
  exact k' sh Z L hs (RJ.frQ F).1.u1
theorem pr_run {sh : oS} {I : Nat → Nat → Int} {L : Nat → Nat → Int64} (hs : Sh sh) {b : Nat} (R : Rel sh I b 0) {x0 x1 x2 x3 : Int} (h0 : inR x0) (h1 : inR x1) (h2 : inR x2) (h3 : inR x3) : PrI T_X11_run T_X12_run [vI x0, vI x1, vI x2, vI x3] b (sh, I, L) := by
  intro Q k
  refine c_run hs R h0 h1 h2 h3 (fun J RJ e => k _ _ ⟨hs, fun Q' k' => ?_⟩)
  refine s_mrun hs RJ.ok h0 h1 h2 h3 (fun Z F => ?_)
  rw [e_runV e]
  exact k' sh Z L hs (RJ.frQ F).1.u1
theorem pr_ahead {sh : oS} {I : Nat → Nat → Int} {L : Nat → Nat → Int64} (hs : Sh sh) {b : Nat} (R : Rel sh I b 0) {x0 x1 : Int} (h0 : inR x0) (h1 : inR x1) : PrI T_X11_ahead T_X12_ahead [vI x0, vI x1] b (sh, I, L) := by
  intro Q k
  refine c_ahead hs R h0 h1 (fun J RJ e => k _ _ ⟨hs, fun Q' k' => ?_⟩)
  have fv := RJ.fv
  rw [← e_aheA e, ← e.at (a := 44) (k := 21) (by omega)] at RJ
  have bd : 0 ≤ aheA J x0 x1 ∧ aheA J x0 x1 ≤ 30 := by
    unfold aheA
    split <;> omega
  refine s_mahead hs RJ.ok fv h0 h1 (fun Z F => ?_)
  rw [e_aheV e]
  exact k' sh Z L hs (five_back RJ bd F).u1
theorem pr_far {sh : oS} {I : Nat → Nat → Int} {L : Nat → Nat → Int64} (hs : Sh sh) {b : Nat} (R : Rel sh I b 0) {x0 x1 : Int} (h0 : inR x0) (h1 : inR x1) : PrI T_X11_far T_X12_far [vI x0, vI x1] b (sh, I, L) := by
  intro Q k
  refine c_far hs R h0 h1 (fun J RJ e => k _ _ ⟨hs, fun Q' k' => ?_⟩)
  have fv := RJ.fv
  rw [← e_farA e, ← e.at (a := 44) (k := 21) (by omega)] at RJ
  have bd : 0 ≤ farA J x0 x1 ∧ farA J x0 x1 ≤ 30 := by
    unfold farA
    split <;> omega
  refine s_mfar hs RJ.ok fv h0 h1 (fun Z F => ?_)
  rw [e_farV e]
  exact k' sh Z L hs (five_back RJ bd F).u1
theorem pr_more {sh : oS} {I : Nat → Nat → Int} {L : Nat → Nat → Int64} (hs : Sh sh) {b : Nat} (R : Rel sh I b 0) {x0 x1 x2 : Int} (h0 : inR x0) (h1 : inR x1) (h2 : inR x2) : PrI T_X11_more T_X12_more [vI x0, vI x1, vI x2] b (sh, I, L) := by
  intro Q k
  refine c_more hs R h0 h1 h2 (fun J RJ e => k _ _ ⟨hs, fun Q' k' => ?_⟩)
  have fv := RJ.fv
  rw [← e_morA e, ← e.at (a := 44) (k := 21) (by omega)] at RJ
  have bd : 0 ≤ morA J x0 x1 x2 ∧ morA J x0 x1 x2 ≤ 30 := by
    unfold morA
    split <;> omega
  refine s_mmore hs RJ.ok RJ.sm.1 RJ.sm.2.1 (RJ.sm.2.2 0 (by decide)) fv h0 h1 h2 (fun Z F => ?_)
  rw [e_morV e]
  exact k' sh Z L hs (five_back RJ bd F).u1
theorem pr_which {sh : oS} {I : Nat → Nat → Int} {L : Nat → Nat → Int64} (hs : Sh sh) {b : Nat} (R : Rel sh I b 0) {x0 : Int} (h0 : inR x0) : PrI T_X11_which T_X12_which [vI x0] b (sh, I, L) := by
  intro Q k
  refine c_which hs R h0 (fun J RJ e => k _ _ ⟨hs, fun Q' k' => ?_⟩)
  have fv := RJ.fv
  rw [← e_whiA e, ← e.at (a := 44) (k := 21) (by omega)] at RJ
  have bd : 0 ≤ whiA J x0 ∧ whiA J x0 ≤ 30 := by
    unfold whiA
    split <;> omega
  refine s_mwhich hs RJ.ok fv h0 (fun Z F => ?_)
  rw [e_whiV e]
  exact k' sh Z L hs (five_back RJ bd F).u1
theorem pr_burnt {sh : oS} {I : Nat → Nat → Int} {L : Nat → Nat → Int64} (hs : Sh sh) {b : Nat} (R : Rel sh I b 0) {x0 x1 x2 : Int} (h0 : inR x0) (h1 : inR x1) (h2 : inR x2) : PrI T_X11_burnt T_X12_burnt [vI x0, vI x1, vI x2] b (sh, I, L) := by
  intro Q k
  refine c_burnt hs R h0 h1 h2 (fun J RJ e => k _ _ ⟨hs, fun Q' k' => ?_⟩)
  have fv := RJ.fv
  rw [← e_askA e, ← e_burB e, ← e.at (a := 44) (k := 21) (by omega)] at RJ
  have bd : 0 ≤ askA J (burB J x0 x1 x2) ∧ askA J (burB J x0 x1 x2) ≤ 30 := by
    unfold askA
    split <;> omega
  refine s_mburnt hs RJ.ok fv h0 h1 h2 (fun Z F => ?_)
  rw [e_burV e]
  exact k' sh Z L hs (five_back RJ bd F).u1
theorem pr_as {sh : oS} {I : Nat → Nat → Int} {L : Nat → Nat → Int64} (hs : Sh sh) {b : Nat} (R : Rel sh I b 0) {x0 x1 : Int} (h0 : inR x0) (h1 : inR x1) : PrI T_X11_as T_X12_as [vI x0, vI x1] b (sh, I, L) := by
  intro Q k
  refine c_as hs R h0 h1 (k _ _ ⟨hs, fun Q' k' => ?_⟩)
  refine s_mas hs R.ok h0 h1 (fun r hr => ?_)
  rw [hr]
  exact k' sh I L hs R.u1
theorem pr_landTold {sh : oS} {I : Nat → Nat → Int} {L : Nat → Nat → Int64} (hs : Sh sh) {b : Nat} (R : Rel sh I b 0) {x0 : Int} (h0 : inR x0) : PrI T_X11_landTold T_X12_landTold [vI x0] b (sh, I, L) := by
  intro Q k
  refine c_landTold hs R h0 (k _ _ ⟨hs, fun Q' k' => ?_⟩)
  refine s_mlandTold hs R.ok h0 (fun r hr => ?_)
  rw [hr]
  exact k' sh I L hs R.u1
theorem pr_place {sh : oS} {I : Nat → Nat → Int} {L : Nat → Nat → Int64} (hs : Sh sh) {b : Nat} (R : Rel sh I b 0) {x0 x1 : Int} (h0 : inR x0) (h1 : inR x1) : PrI T_X11_place T_X12_place [vI x0, vI x1] b (sh, I, L) := by
  intro Q k
  refine c_place hs R h0 h1 (k _ _ ⟨hs, fun Q' k' => ?_⟩)
  refine s_mplace hs R.ok h0 h1 (fun r hr => ?_)
  rw [hr]
  exact k' sh I L hs R.u1
theorem pr_marchTold {sh : oS} {I : Nat → Nat → Int} {L : Nat → Nat → Int64} (hs : Sh sh) {b : Nat} (R : Rel sh I b 0) {x0 x1 : Int} (h0 : inR x0) (h1 : inR x1) : PrI T_X11_marchTold T_X12_marchTold [vI x0, vI x1] b (sh, I, L) := by
  intro Q k
  refine c_marchTold hs R h0 h1 (k _ _ ⟨hs, fun Q' k' => ?_⟩)
  refine s_mmarchTold hs R.ok h0 h1 (fun r hr => ?_)
  rw [hr]
  exact k' sh I L hs R.u1
theorem pr_count {sh : oS} {I : Nat → Nat → Int} {L : Nat → Nat → Int64} (hs : Sh sh) {b : Nat} (R : Rel sh I b 0) {x0 : Int} (h0 : inR x0) : PrI T_X11_count T_X12_count [vI x0] b (sh, I, L) := by
  intro Q k
  refine c_count hs R h0 (k _ _ ⟨hs, fun Q' k' => ?_⟩)
  refine s_mcount hs h0 (fun r hr => ?_)
  rw [hr]
  exact k' sh I L hs R.u1
theorem pr_flour {sh : oS} {I : Nat → Nat → Int} {L : Nat → Nat → Int64} (hs : Sh sh) {b : Nat} (R : Rel sh I b 0) {x0 x1 : Int} (h0 : inR x0) (h1 : inR x1) : PrI T_X11_flour T_X12_flour [vI x0, vI x1] b (sh, I, L) := by
  intro Q k
  refine c_flour hs R h0 h1 (fun J e RJ => k _ _ ⟨hs, fun Q' k' => ?_⟩)
  refine s_mflour hs (by rw [e.ok]; exact R.ok) h0 h1 (fun r Z hr hZ => ?_)
  rw [hr, hZ, e_floV e]
  exact k' sh _ L hs RJ.u1
theorem pr_plan {sh : oS} {I : Nat → Nat → Int} {L : Nat → Nat → Int64} (hs : Sh sh) {b : Nat} (R : Rel sh I b 0) {x0 x1 x2 : Int} (h0 : inR x0) (h1 : inR x1) (h2 : inR x2) : PrI T_X11_plan T_X12_plan [vI x0, vI x1, vI x2] b (sh, I, L) := by
  intro Q k
  refine c_plan hs R h0 h1 h2 (fun sh' J L' hs' e RJ => k _ _ ⟨hs', fun Q' k' => ?_⟩)
  refine s_mplan hs' (by rw [e.e.ok]; exact R.ok) h0 h1 h2 (fun r Z hr hZ => ?_)
  rw [hr, hZ, e_plnV e.e]
  exact k' sh' _ L' hs' RJ.u1
theorem pr_image {sh : oS} {I : Nat → Nat → Int} {L : Nat → Nat → Int64} (hs : Sh sh) {b : Nat} (R : Rel sh I b 0) : PrI T_X11_image T_X12_image [] b (sh, I, L) := by
  intro Q k
  refine c_image hs R (fun J e RJ => k _ _ ⟨hs, fun Q' k' => ?_⟩)
  refine s_mimage hs (by rw [e.ok]; exact R.ok) ?_
  rw [e_imgV e]
  exact k' sh _ L hs RJ.u1
theorem s_mrestore0 {sh : oS} {I : Nat → Nat → Int} {L : Nat → Nat → Int64} {Q : oQ} (hs : Sh sh) (z : I 44 22 = 0) (k : Q (some (vI (resV I))) (sh, resI I, L)) : T_X12_restore [vR 44] (sh, I, L) Q := by
  refine And.intro (Nat.le_of_ble_eq_true rfl) (fun K hK => ?_)
  unfold resV resI at k
  rw [if_pos (Or.inl z), if_pos (Or.inl z)] at k
  exact B_X12_restore_0 hK hs (n4 := by omega) (kt := fun _ => B_X12_restore_18 hK (k := k)) (kf := fun t => absurd z t)
theorem pr_restore {sh : oS} {I : Nat → Nat → Int} {L : Nat → Nat → Int64} (hs : Sh sh) {b : Nat} (R : Rel sh I b 0) (hb : b ≤ 10000) : PrI T_X11_restore T_X12_restore [] b (sh, I, L) := by
  intro Q k
  refine c_restore hs hb R (fun J e RJ => k _ _ ⟨hs, fun Q' k' => ?_⟩)
  have im := R.im hb
  rw [← e.at (a := 44) (k := 22) (by omega), ← e.at (a := 44) (k := 23) (by omega), ← e.at (a := 44) (k := 7) (by omega)] at im
  have kk : Q' (some (vI (resV J))) (sh, resI J, L) := by
    rw [e_resV e]
    exact k' sh _ L hs RJ.u1
  by_cases z : J 44 22 = 0
  · exact s_mrestore0 hs z kk
  · exact s_mrestore hs (by rw [e.ok]; exact R.ok) im.1 (im.2.1 z) im.2.2 kk
theorem pr_letters {sh : oS} {I : Nat → Nat → Int} {L : Nat → Nat → Int64} (hs : Sh sh) {b : Nat} (R : Rel sh I b 0) (w : Int64) : PrI T_X11_letters T_X12_letters [vL w] b (sh, I, L) := by
  intro Q k
  refine c_letters hs R (fun J e RJ => k _ _ ⟨hs, fun Q' k' => ?_⟩)
  refine s_mletters hs (by rw [e.at (a := 44) (k := 19) (by omega)]; exact R.pg) ?_
  rw [e_letV e]
  exact k' sh _ L hs RJ.u1
theorem pr_blank {sh : oS} {I : Nat → Nat → Int} {L : Nat → Nat → Int64} (hs : Sh sh) {b : Nat} (R : Rel sh I b 0) : PrI T_X11_blank T_X12_blank [] b (sh, I, L) := by
  intro Q k
  refine c_blank hs R (fun J e RJ => k _ _ ⟨hs, fun Q' k' => ?_⟩)
  refine s_mblank hs ?_
  rw [e.at (a := 44) (k := 19) (by omega)]
  exact k' sh _ L hs RJ.u1
theorem pr_digest {sh : oS} {I : Nat → Nat → Int} {L : Nat → Nat → Int64} (hs : Sh sh) {b : Nat} (R : Rel sh I b 0) (hb : b ≤ 10000) : PrL T_X11_digest T_X12_digest [] b (sh, I, L) := by
  intro Q k
  refine c_digest hs hb R (fun J RJ e => k _ _ ⟨hs, fun Q' k' => ?_⟩)
  refine s_mdigest hs RJ.ok RJ.pg (fun Z F => ?_)
  rw [e_digV e]
  exact k' sh Z _ hs (RJ.frQ F).1.u1
theorem pr_fault {sh : oS} {I : Nat → Nat → Int} {L : Nat → Nat → Int64} (hs : Sh sh) {b : Nat} (R : Rel sh I b 0) {x0 : Int} (h0 : inR x0) : PrI T_X11_fault T_X12_fault [vI x0] b (sh, I, L) := by
  intro Q k
  refine c_fault hs R h0 (fun J r RJ e fr => k _ _ ⟨hs, fun Q' k' => ?_⟩)
  refine s_mfault hs h0 RJ.pg RJ.lt (fun r2 Z F fr2 => ?_)
  rw [fauR_un e fr fr2]
  exact k' sh Z L hs (RJ.frR F).1.u1
theorem rfF.rd {I J : Nat → Nat → Int} (e : rfF I J) {S : Type} {step : S → Int → Option S} {s0 : S} {n : Nat} {s : S} (h : rdEnd step s0 (J 56) (J 44 19).toNat n s) : rdEnd step s0 (I 56) (I 44 19).toNat n s := by
  rw [e.fn (x := 56) (by decide) (by decide), e 44 19 (by decide) (by decide)] at h
  exact h
theorem rfF.pg {I J : Nat → Nat → Int} (e : rfF I J) (h : 0 ≤ I 44 19 ∧ I 44 19 ≤ 60) : 0 ≤ J 44 19 ∧ J 44 19 ≤ 60 := by
  rw [e 44 19 (by decide) (by decide)]
  exact h
theorem rfF.lt {I J : Nat → Nat → Int} (e : rfF I J) (h : ∀ x : Nat, (x : Int) < I 44 19 → 0 ≤ I 56 x ∧ I 56 x ≤ 127) : ∀ x : Nat, (x : Int) < J 44 19 → 0 ≤ J 56 x ∧ J 56 x ≤ 127 := fun x hx => by
  rw [e 44 19 (by decide) (by decide)] at hx
  rw [e 56 x (by decide) (by decide)]
  exact h x hx
theorem pr_land {sh : oS} {I : Nat → Nat → Int} {L : Nat → Nat → Int64} (hs : Sh sh) {b : Nat} (R : Rel sh I b 0) : PrI T_X11_land T_X12_land [] b (sh, I, L) := by
  intro Q k
  have e19 : ∀ J, rfF I J → J 44 19 = I 44 19 := fun J e => e 44 19 (by decide) (by decide)
  refine c_land hs R (fun J n s RJ e rd ne => k _ _ ⟨hs, fun Q' k' => ?_⟩) (fun J n s e rd en RJ => k _ _ ⟨hs, fun Q' k' => ?_⟩)
  · refine s_mland hs (e.pg R.pg) (e.lt R.lt) (fun Z n2 s2 F rd2 _ => ?_) (fun Z n2 s2 lj rd2 en2 _ => ?_)
    · exact k' sh Z L hs (RJ.frR F).1.u1
    · rw [e.la] at rd2
      obtain ⟨e1, e2⟩ := rdEnd_un rd (e.rd rd2)
      subst e1 e2
      rw [e19 J e] at en2
      exact absurd en2 ne
  · refine s_mland hs (e.pg R.pg) (e.lt R.lt) (fun Z n2 s2 F rd2 ne2 => ?_) (fun Z n2 s2 lj rd2 en2 ok => ?_)
    · rw [e.la] at rd2
      obtain ⟨e1, e2⟩ := rdEnd_un rd (e.rd rd2)
      subst e1 e2
      rw [e19 J e] at ne2
      exact absurd en ne2
    · rw [e.la] at rd2
      obtain ⟨e1, e2⟩ := rdEnd_un rd (e.rd rd2)
      subst e1 e2
      exact k' sh Z L hs (RJ Z lj ok)
theorem pr_march {sh : oS} {I : Nat → Nat → Int} {L : Nat → Nat → Int64} (hs : Sh sh) {b : Nat} (R : Rel sh I b 0) : PrI T_X11_march T_X12_march [] b (sh, I, L) := by
  intro Q k
  have e19 : ∀ J, rfF I J → J 44 19 = I 44 19 := fun J e => e 44 19 (by decide) (by decide)
  have ec : ∀ J, rfF I J → J 44 8 = I 44 8 := fun J e => e 44 8 (by decide) (by decide)
  have bc : ∀ J, rfF I J → 0 ≤ J 44 8 ∧ J 44 8 ≤ 4 := fun J e => by
    rw [ec J e]
    exact R.ok.2.2.2.2.2.2.2.1
  refine c_march hs R (fun J n s RJ e rd ne => k _ _ ⟨hs, fun Q' k' => ?_⟩) (fun J n s RJ e rd en fl => k _ _ ⟨hs, fun Q' k' => ?_⟩) (fun sh' J L' n s hs' e rd en nf RJ => k _ _ ⟨hs', fun Q' k' => ?_⟩)
  · refine s_mmarch hs (bc J e) (e.pg R.pg) (e.lt R.lt) (fun Z n2 s2 F rd2 _ => ?_) (fun Z n2 s2 F rd2 en2 _ => ?_) (fun Z n2 s2 lj rd2 en2 _ _ => ?_)
    · exact k' sh Z L hs (RJ.frR F).1.u1
    · rw [e.ma] at rd2
      obtain ⟨e1, e2⟩ := rdEnd_un rd (e.rd rd2)
      subst e1 e2
      rw [e19 J e] at en2
      exact absurd en2 ne
    · rw [e.ma] at rd2
      obtain ⟨e1, e2⟩ := rdEnd_un rd (e.rd rd2)
      subst e1 e2
      rw [e19 J e] at en2
      exact absurd en2 ne
  · refine s_mmarch hs (bc J e) (e.pg R.pg) (e.lt R.lt) (fun Z n2 s2 F rd2 ne2 => ?_) (fun Z n2 s2 F rd2 en2 _ => ?_) (fun Z n2 s2 lj rd2 en2 nf2 _ => ?_)
    · rw [e.ma] at rd2
      obtain ⟨e1, e2⟩ := rdEnd_un rd (e.rd rd2)
      subst e1 e2
      rw [e19 J e] at ne2
      exact absurd en ne2
    · exact k' sh Z L hs (RJ.frR F).1.u1
    · rw [ec J e] at nf2
      exact absurd fl nf2
  · refine s_mmarch hs' (bc J e) (e.pg R.pg) (e.lt R.lt) (fun Z n2 s2 F rd2 ne2 => ?_) (fun Z n2 s2 F rd2 en2 fl2 => ?_) (fun Z n2 s2 lj rd2 en2 nf2 ok => ?_)
    · rw [e.ma] at rd2
      obtain ⟨e1, e2⟩ := rdEnd_un rd (e.rd rd2)
      subst e1 e2
      rw [e19 J e] at ne2
      exact absurd en ne2
    · rw [ec J e] at fl2
      exact absurd fl2 nf
    · rw [e.ma] at rd2
      obtain ⟨e1, e2⟩ := rdEnd_un rd (e.rd rd2)
      subst e1 e2
      rw [ec J e]
      exact k' sh' Z L' hs' (RJ Z lj ok).u1
theorem pr_tell {sh : oS} {I : Nat → Nat → Int} {L : Nat → Nat → Int64} (hs : Sh sh) {b : Nat} (R : Rel sh I b 0) : PrI T_X11_tell T_X12_tell [] b (sh, I, L) := by
  intro Q k
  have e19 : ∀ J, rfF I J → J 44 19 = I 44 19 := fun J e => e 44 19 (by decide) (by decide)
  have ec : ∀ J, rfF I J → J 44 14 = I 44 14 := fun J e => e 44 14 (by decide) (by decide)
  have bc : ∀ J, rfF I J → 0 ≤ J 44 14 ∧ J 44 14 ≤ 8 := fun J e => by
    rw [ec J e]
    exact R.ok.2.2.2.2.2.2.2.2.2.1
  refine c_tell hs R (fun J n s RJ e rd ne => k _ _ ⟨hs, fun Q' k' => ?_⟩) (fun J n s RJ e rd en fl => k _ _ ⟨hs, fun Q' k' => ?_⟩) (fun sh' J L' n s hs' e rd en nf RJ => k _ _ ⟨hs', fun Q' k' => ?_⟩)
  · refine s_mtell hs (bc J e) (e.pg R.pg) (e.lt R.lt) (fun Z n2 s2 F rd2 _ => ?_) (fun Z n2 s2 F rd2 en2 _ => ?_) (fun Z n2 s2 lj rd2 en2 _ _ => ?_)
    · exact k' sh Z L hs (RJ.frR F).1.u1
    · rw [e.se] at rd2
      obtain ⟨e1, e2⟩ := rdEnd_un rd (e.rd rd2)
      subst e1 e2
      rw [e19 J e] at en2
      exact absurd en2 ne
    · rw [e.se] at rd2
      obtain ⟨e1, e2⟩ := rdEnd_un rd (e.rd rd2)
      subst e1 e2
      rw [e19 J e] at en2
      exact absurd en2 ne
  · refine s_mtell hs (bc J e) (e.pg R.pg) (e.lt R.lt) (fun Z n2 s2 F rd2 ne2 => ?_) (fun Z n2 s2 F rd2 en2 _ => ?_) (fun Z n2 s2 lj rd2 en2 nf2 _ => ?_)
    · rw [e.se] at rd2
      obtain ⟨e1, e2⟩ := rdEnd_un rd (e.rd rd2)
      subst e1 e2
      rw [e19 J e] at ne2
      exact absurd en ne2
    · exact k' sh Z L hs (RJ.frR F).1.u1
    · rw [ec J e] at nf2
      exact absurd fl nf2
  · refine s_mtell hs' (bc J e) (e.pg R.pg) (e.lt R.lt) (fun Z n2 s2 F rd2 ne2 => ?_) (fun Z n2 s2 F rd2 en2 fl2 => ?_) (fun Z n2 s2 lj rd2 en2 nf2 ok => ?_)
    · rw [e.se] at rd2
      obtain ⟨e1, e2⟩ := rdEnd_un rd (e.rd rd2)
      subst e1 e2
      rw [e19 J e] at ne2
      exact absurd en ne2
    · rw [ec J e] at fl2
      exact absurd fl2 nf
    · rw [e.se] at rd2
      obtain ⟨e1, e2⟩ := rdEnd_un rd (e.rd rd2)
      subst e1 e2
      rw [ec J e]
      exact k' sh' Z L' hs' (RJ Z lj ok).u1
