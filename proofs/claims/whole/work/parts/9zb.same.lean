/-! what is asked hangs upon what is kept alone -/
theorem rfE.v {α : Type} {I J : Nat → Nat → Int} {f : (Nat → Nat → Int) → α} (e : rfE I J) (hf : ∀ I, f (prj I) = f I) : f J = f I := by
  rw [← hf J, ← hf I, e]
theorem e_barV {I J : Nat → Nat → Int} {x0 x1 x2 x3 : Int} (e : rfE I J) : barV J x0 x1 x2 x3 = barV I x0 x1 x2 x3 := e.v (f := fun I => barV I x0 x1 x2 x3) (fun _ => rfl)
theorem e_barW {I J : Nat → Nat → Int} {x0 x1 x2 : Int} (e : rfE I J) : barW J x0 x1 x2 = barW I x0 x1 x2 := e.v (f := fun I => barW I x0 x1 x2) (fun _ => rfl)
theorem e_hunV {I J : Nat → Nat → Int} {x0 x1 x2 : Int} (e : rfE I J) : hunV J x0 x1 x2 = hunV I x0 x1 x2 := e.v (f := fun I => hunV I x0 x1 x2) (fun _ => rfl)
theorem e_carV {I J : Nat → Nat → Int} {x0 x1 x2 : Int} (e : rfE I J) : carV J x0 x1 x2 = carV I x0 x1 x2 := e.v (f := fun I => carV I x0 x1 x2) (fun _ => rfl)
theorem e_lakV {I J : Nat → Nat → Int} {x0 x1 x2 : Int} (e : rfE I J) : lakV J x0 x1 x2 = lakV I x0 x1 x2 := e.v (f := fun I => lakV I x0 x1 x2) (fun _ => rfl)
theorem e_worV {I J : Nat → Nat → Int} {x0 x1 x2 : Int} (e : rfE I J) : worV J x0 x1 x2 = worV I x0 x1 x2 := e.v (f := fun I => worV I x0 x1 x2) (fun _ => rfl)
theorem e_runV {I J : Nat → Nat → Int} {x0 x1 x2 x3 : Int} (e : rfE I J) : runV J x0 x1 x2 x3 = runV I x0 x1 x2 x3 := e.v (f := fun I => runV I x0 x1 x2 x3) (fun _ => rfl)
theorem e_meaV {I J : Nat → Nat → Int} {x0 x1 x2 x3 : Int} (e : rfE I J) : meaV J x0 x1 x2 x3 = meaV I x0 x1 x2 x3 := e.v (f := fun I => meaV I x0 x1 x2 x3) (fun _ => rfl)
theorem e_aheV {I J : Nat → Nat → Int} {x0 x1 : Int} (e : rfE I J) : aheV J x0 x1 = aheV I x0 x1 := e.v (f := fun I => aheV I x0 x1) (fun _ => rfl)
theorem e_aheA {I J : Nat → Nat → Int} {x0 x1 : Int} (e : rfE I J) : aheA J x0 x1 = aheA I x0 x1 := e.v (f := fun I => aheA I x0 x1) (fun _ => rfl)
theorem e_farV {I J : Nat → Nat → Int} {x0 x1 : Int} (e : rfE I J) : farV J x0 x1 = farV I x0 x1 := e.v (f := fun I => farV I x0 x1) (fun _ => rfl)
theorem e_farA {I J : Nat → Nat → Int} {x0 x1 : Int} (e : rfE I J) : farA J x0 x1 = farA I x0 x1 := e.v (f := fun I => farA I x0 x1) (fun _ => rfl)
theorem e_burV {I J : Nat → Nat → Int} {x0 x1 x2 : Int} (e : rfE I J) : burV J x0 x1 x2 = burV I x0 x1 x2 := e.v (f := fun I => burV I x0 x1 x2) (fun _ => rfl)
theorem e_burB {I J : Nat → Nat → Int} {x0 x1 x2 : Int} (e : rfE I J) : burB J x0 x1 x2 = burB I x0 x1 x2 := e.v (f := fun I => burB I x0 x1 x2) (fun _ => rfl)
theorem e_morV {I J : Nat → Nat → Int} {x0 x1 x2 : Int} (e : rfE I J) : morV J x0 x1 x2 = morV I x0 x1 x2 := e.v (f := fun I => morV I x0 x1 x2) (fun _ => rfl)
theorem e_morA {I J : Nat → Nat → Int} {x0 x1 x2 : Int} (e : rfE I J) : morA J x0 x1 x2 = morA I x0 x1 x2 := e.v (f := fun I => morA I x0 x1 x2) (fun _ => rfl)
theorem e_whiV {I J : Nat → Nat → Int} {x0 : Int} (e : rfE I J) : whiV J x0 = whiV I x0 := e.v (f := fun I => whiV I x0) (fun _ => rfl)
theorem e_whiA {I J : Nat → Nat → Int} {x0 : Int} (e : rfE I J) : whiA J x0 = whiA I x0 := e.v (f := fun I => whiA I x0) (fun _ => rfl)
theorem e_atV {I J : Nat → Nat → Int} {x0 x1 x2 : Int} (e : rfE I J) : atV J x0 x1 x2 = atV I x0 x1 x2 := e.v (f := fun I => atV I x0 x1 x2) (fun _ => rfl)
theorem e_asV {I J : Nat → Nat → Int} {x0 x1 : Int} (e : rfE I J) : asV J x0 x1 = asV I x0 x1 := e.v (f := fun I => asV I x0 x1) (fun _ => rfl)
theorem e_ltV {I J : Nat → Nat → Int} {x0 : Int} (e : rfE I J) : ltV J x0 = ltV I x0 := e.v (f := fun I => ltV I x0) (fun _ => rfl)
theorem e_plcV {I J : Nat → Nat → Int} {x0 x1 : Int} (e : rfE I J) : plcV J x0 x1 = plcV I x0 x1 := e.v (f := fun I => plcV I x0 x1) (fun _ => rfl)
theorem e_floV {I J : Nat → Nat → Int} {x0 x1 : Int} (e : rfE I J) : floV J x0 x1 = floV I x0 x1 := e.v (f := fun I => floV I x0 x1) (fun _ => rfl)
theorem e_mtV {I J : Nat → Nat → Int} {x0 x1 : Int} (e : rfE I J) : mtV J x0 x1 = mtV I x0 x1 := e.v (f := fun I => mtV I x0 x1) (fun _ => rfl)
theorem e_plnV {I J : Nat → Nat → Int} {x0 x1 x2 : Int} (e : rfE I J) : plnV J x0 x1 x2 = plnV I x0 x1 x2 := e.v (f := fun I => plnV I x0 x1 x2) (fun _ => rfl)
theorem e_hmV {I J : Nat → Nat → Int} {x0 : Int} (e : rfE I J) : hmV J x0 = hmV I x0 := e.v (f := fun I => hmV I x0) (fun _ => rfl)
theorem e_bakV {I J : Nat → Nat → Int} {x0 x1 x2 x3 : Int} (e : rfE I J) : bakV J x0 x1 x2 x3 = bakV I x0 x1 x2 x3 := e.v (f := fun I => bakV I x0 x1 x2 x3) (fun _ => rfl)
theorem e_staV {I J : Nat → Nat → Int} {x0 x1 x2 : Int} (e : rfE I J) : staV J x0 x1 x2 = staV I x0 x1 x2 := e.v (f := fun I => staV I x0 x1 x2) (fun _ => rfl)
theorem e_askA {I J : Nat → Nat → Int} {x0 : Int} (e : rfE I J) : askA J x0 = askA I x0 := e.v (f := fun I => askA I x0) (fun _ => rfl)
theorem e_letV {I J : Nat → Nat → Int} {w : Int64} (e : rfE I J) : letV J w = letV I w := e.v (f := fun I => letV I w) (fun _ => rfl)
theorem e_digV {I J : Nat → Nat → Int} (e : rfE I J) : digV J = digV I := e.v (f := fun I => digV I) (fun _ => rfl)
theorem e_imgV {I J : Nat → Nat → Int} (e : rfE I J) : imgV J = imgV I := by
  unfold imgV
  rw [e.at (a := 44) (k := 0) (by omega), flS_cg _ (fun p _ => e.at (by omega))]
theorem e_resV {I J : Nat → Nat → Int} (e : rfE I J) : resV J = resV I := by
  unfold resV
  rw [e.at (a := 44) (k := 22) (by omega), e.at (a := 44) (k := 23) (by omega), e.at (a := 44) (k := 7) (by omega), e.at (a := 44) (k := 0) (by omega)]
  rw [flS_cg (I := cpN I 57 45 (I 44 0)) (J := cpN J 57 45 (I 44 0)) _ (fun p _ => by
    unfold cpN
    rw [e.at (a := 57) (by omega), e.at (a := 45) (by omega)])]
/-- the reference counts one of the five -/
theorem five_back {sh : oS} {J Z : Nat → Nat → Int} {b : Nat} {x : Int} (R : Rel sh J b (x - J 44 21)) (hx : 0 ≤ x ∧ x ≤ 30) (F : FrQ (u2 J 44 21 x) Z) : Rel sh Z b 0 := by
  obtain ⟨hn, ht, R⟩ := R
  obtain ⟨⟨s1, s2, s3, s4, s5, s6⟩, r2, r3, -, -, r6, r7, r8, -⟩ := id R
  have q : ∀ x y, (x ≤ 43 ∨ (44 = x ∧ y < 24 ∧ y ≠ 21) ∨ (45 ≤ x ∧ x ≤ 57) ∨ 77 ≤ x) → Z x y = J x y := fun x y h => by
    rw [F x y (by simp <;> omega) (by simp <;> omega), uF (by omega)]
  have z21 : Z 44 21 = x := by rw [F 44 21 (by simp) (by simp), uA]
  have eV : rfV J Z := rfV.of (fun x k c => q x k (by omega))
  refine ⟨hn, ht, R.gen ⟨by rw [eV.ok]; exact s1, ?_, by rw [z21]; exact hx, ?_, ?_, ?_⟩ ?_ ?_ (fun x k h1 h2 => q x k (by omega)) (q _ _ (by omega)) (q _ _ (by omega)) (q _ _ (by omega)) (q _ _ (by omega)) (fun x k h => q x k (by omega)) ?_ ?_ ?_ ?_⟩
  · rw [q 44 3 (by omega), q 44 5 (by omega)]
    exact ⟨s2.1, s2.2.1, fun p hp => by rw [q 45 p (by omega)]; exact s2.2.2 p hp⟩
  · rw [q 44 19 (by omega)]; exact s4
  · intro x hx
    rw [q 44 19 (by omega)] at hx
    rw [q 56 x (by omega)]
    exact s5 x hx
  · rw [q 44 7 (by omega)]; exact s6
  · unfold rPg
    rw [q 1 1 (by omega), q 44 19 (by omega)]
    refine ⟨r2.1, fun x hx => ?_⟩
    rw [q 2 x (by omega), q 56 x (by omega)]
    exact r2.2 x hx
  · unfold rLd
    rw [q 3 0 (by omega), q 3 3 (by omega), q 3 4 (by omega), q 3 5 (by omega), q 3 6 (by omega), q 44 0 (by omega), q 44 3 (by omega), q 44 4 (by omega), q 44 5 (by omega), q 44 6 (by omega)]
    refine ⟨r3.1, r3.2.1, r3.2.2.1, r3.2.2.2.1, r3.2.2.2.2.1, fun p hp => ?_⟩
    rw [q 4 p (by omega), q 5 p (by omega), q 45 p (by omega), q 46 p (by omega)]
    exact r3.2.2.2.2.2 p hp
  · exact r6.eqV eV (fun x => ⟨q 41 x (by omega), q 42 x (by omega), q 43 x (by omega)⟩)
  · rw [q 0 10 (by omega), q 44 7 (by omega)]; exact r7.1
  · rw [q 0 11 (by omega), z21]
    have := r7.2
    omega
  · unfold rIm
    rw [q 44 0 (by omega), q 44 7 (by omega), q 44 22 (by omega), q 0 13 (by omega), q 44 23 (by omega)]
    refine ⟨r8.1, ?_⟩
    rcases r8.2 with z | ⟨z1, z2, z3, z4⟩
    · exact Or.inl z
    · refine Or.inr ⟨z1, z2, z3, fun w p hp => ?_⟩
      rw [q 23 p (by omega), q 57 p (by omega)]
      exact z4 w p hp
/-- the reference's reading leaves all as it is -/
theorem Rel.frR {sh : oS} {I J : Nat → Nat → Int} {b : Nat} {a : Int} (h : Rel sh I b a) (F : FrR I J) : Rel sh J b a ∧ rfE I J := by
  obtain ⟨hn, ht, h⟩ := h
  have e : rfE I J := rfE.of (fun x k c => F x k (by simp <;> omega) (by simp <;> omega))
  refine ⟨⟨hn, ht, h.fr e ?_ ?_ (fun x k hx _ _ _ _ _ => F x k (by simp <;> omega) (by simp <;> omega))⟩, e⟩
  · exact h.2.2.2.2.2.1.eq e (fun x => ⟨F 41 x (by simp) (by simp), F 42 x (by simp) (by simp), F 43 x (by simp) (by simp)⟩)
  · rw [F 0 11 (by simp) (by simp), e.at (by omega)]
    exact h.2.2.2.2.2.2.1.2
