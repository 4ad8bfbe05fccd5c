/-! the shape grows -/
def sEx (sh sh' : oS) : Prop := sN sh ≤ sN sh' ∧ (∀ h, h < sN sh → sK sh' h = sK sh h ∧ sL sh' h = sL sh h) ∧ ∀ h k, h < sN sh → h ≠ 9 → h ≠ 10 → ¬ (h = 0 ∧ (k = 6 ∨ k = 7)) → sR sh' h k = sR sh h k
theorem rf0_ok : ∀ q ∈ rf0, q.1 < 77 ∧ q.1 ≠ 9 ∧ q.1 ≠ 10 ∧ ¬ (q.1 = 0 ∧ (q.2.1 = 6 ∨ q.2.1 = 7)) := by decide
theorem Sh.ex {sh sh' : oS} (hs : Sh sh) (e : sEx sh sh') : Sh sh' := by
  have hN := hs.2.2.2
  have e1 := e.1
  refine ⟨fun h hh => ?_, fun h hh => ?_, fun q hq => ?_, by omega⟩
  · rw [(e.2.1 h (by omega)).1]
    exact hs.1 h hh
  · rw [(e.2.1 h (by omega)).2]
    exact hs.2.1 h hh
  · obtain ⟨a1, a2, a3, a4⟩ := rf0_ok q hq
    rw [e.2.2 q.1 q.2.1 (by omega) a2 a3 a4]
    exact hs.2.2.1 q hq
theorem MA.ex {sh sh' : oS} {h : Nat} (A : MA sh h) (e : sEx sh sh') (hh : h + 4 ≤ sN sh) : MA sh' h := by
  obtain ⟨⟨a1, a2, a3, a4, ⟨a5, a6⟩, ⟨a7, a8⟩, a9, a10⟩, a11⟩ := A
  have r : ∀ k, sR sh' h k = sR sh h k := fun k => e.2.2 h k (by omega) (by omega) (by omega) (by omega)
  exact ⟨⟨by rw [(e.2.1 h (by omega)).1]; exact a1, by rw [r]; exact a2, by rw [r]; exact a3, by rw [r]; exact a4, ⟨by rw [(e.2.1 _ (by omega)).1]; exact a5, by rw [(e.2.1 _ (by omega)).2]; exact a6⟩, ⟨by rw [(e.2.1 _ (by omega)).1]; exact a7, by rw [(e.2.1 _ (by omega)).2]; exact a8⟩, by rw [(e.2.1 _ (by omega)).1]; exact a9, by rw [(e.2.1 _ (by omega)).2]; exact a10⟩, a11⟩
theorem TA.ex {sh sh' : oS} {h : Nat} (A : TA sh h) (e : sEx sh sh') (hh : h + 4 ≤ sN sh) : TA sh' h := by
  obtain ⟨⟨a1, a2, a3, a4, ⟨a5, a6⟩, ⟨a7, a8⟩, a9, a10⟩, a11⟩ := A
  have r : ∀ k, sR sh' h k = sR sh h k := fun k => e.2.2 h k (by omega) (by omega) (by omega) (by omega)
  exact ⟨⟨by rw [(e.2.1 h (by omega)).1]; exact a1, by rw [r]; exact a2, by rw [r]; exact a3, by rw [r]; exact a4, ⟨by rw [(e.2.1 _ (by omega)).1]; exact a5, by rw [(e.2.1 _ (by omega)).2]; exact a6⟩, ⟨by rw [(e.2.1 _ (by omega)).1]; exact a7, by rw [(e.2.1 _ (by omega)).2]; exact a8⟩, by rw [(e.2.1 _ (by omega)).1]; exact a9, by rw [(e.2.1 _ (by omega)).2]; exact a10⟩, a11⟩
theorem mRel.ex {sh sh' : oS} {I : Nat → Nat → Int} {m h : Nat} (a : mRel sh I m h) (e : sEx sh sh') (hh : h + 4 ≤ sN sh) : mRel sh' I m h := ⟨a.1.ex e hh, a.2⟩
theorem pK.ex {sh sh' : oS} {I : Nat → Nat → Int} {g : Nat} {kind k n : Int} {T : Nat → Int} (a : pK sh I g kind k n T) (e : sEx sh sh') (hg : g + (if kind = 4 then 4 else 1) ≤ sN sh) : pK sh' I g kind k n T := by
  obtain ⟨a1, a2, a3, a4⟩ := a
  have g1 : g < sN sh := by split at hg <;> omega
  have ek := (e.2.1 g g1).1
  refine ⟨a1, a2, a3, ?_⟩
  rw [ek]
  rcases a4 with c | c | c | c | ⟨c1, c2, c3, c4, c5, c6⟩
  · exact Or.inl c
  · exact Or.inr (Or.inl c)
  · exact Or.inr (Or.inr (Or.inl c))
  · exact Or.inr (Or.inr (Or.inr (Or.inl c)))
  · rw [if_pos c2] at hg
    exact Or.inr (Or.inr (Or.inr (Or.inr ⟨c1, c2, c3, c4, c5.ex e hg, c6⟩)))
theorem pRel.ex {sh sh' : oS} {I : Nat → Nat → Int} {p g : Nat} (a : pRel sh I p g) (e : sEx sh sh') (hg : g + (if I 52 p = 4 then 4 else 1) ≤ sN sh) : pRel sh' I p g := pK.ex a e hg
theorem RelX.frN {sh sh' : oS} {I J : Nat → Nat → Int} {b hn ht : Nat} {a a' : Int} (h : RelX sh I b hn ht a) (hN : 77 ≤ sN sh) (ex : sEx sh sh') (r9 : ∀ k, sR sh' 9 k = sR sh 9 k) (r10 : ∀ k, sR sh' 10 k = sR sh 10 k) (r06 : sR sh' 0 6 = sR sh 0 6) (r07 : sR sh' 0 7 = sR sh 0 7) (e : rfE I J) (hkc : rKc J) (h11 : J 0 11 = J 44 21 + a') (q : ∀ x k, (x ≤ 40 ∨ 77 ≤ x) → x < sN sh → ¬ scr x k → ¬ (x = 0 ∧ k = 11) → ¬ (hn ≤ x ∧ x ≤ hn + 3) → ¬ (ht < x ∧ x ≤ ht + 3) → ¬ (x = ht ∧ 2 ≤ k) → J x k = I x k) : RelX sh' J b hn ht a' := by
  have exN := ex.1
  obtain ⟨h1, h2, h3, h4, h5, h6, h7, h8, h9⟩ := h
  obtain ⟨s1, s2, s3, s4, s5, s6⟩ := h1
  have e44 : ∀ k, k < 24 → J 44 k = I 44 k := fun k hk => e.at (by omega)
  obtain ⟨x1, x2, x3, x4, x5, x6, x7, x8, x9, x10⟩ := id h9
  have hn2 := x3.2
  have ht2 := x5.2
  have lowc : ∀ x k, x ≤ 40 → ¬ scr x k → ¬ (x = 0 ∧ k = 11) → ¬ (15 ≤ x ∧ x ≤ 22) → J x k = I x k := fun x k hx hs h0 hr => q x k (by omega) (by omega) hs h0 (by omega) (by omega) (by omega)
  refine ⟨⟨by rw [e.ok]; exact s1, by rw [e44 3 (by decide), e44 5 (by decide)]; exact ⟨s2.1, s2.2.1, fun p hp => by rw [e.at (by omega)]; exact s2.2.2 p hp⟩, by rw [e44 21 (by decide)]; exact s3, by rw [e44 19 (by decide)]; exact s4, fun x hx => by rw [e44 19 (by decide)] at hx; rw [e.at (by omega)]; exact s5 x hx, by rw [e44 7 (by decide)]; exact s6⟩, ?_, ?_, ?_, ?_, ?_, ?_, ?_, ?_⟩
  · refine ⟨by rw [lowc 1 1 (by decide) (by unfold scr; omega) (by omega) (by omega), e44 19 (by decide)]; exact h2.1, fun x hx => ?_⟩
    rw [e44 19 (by decide)] at hx
    rw [lowc 2 x (by decide) (by unfold scr; omega) (by omega) (by omega), e.at (by omega)]
    exact h2.2 x hx
  · unfold rLd
    rw [lowc 3 0 (by decide) (by unfold scr; omega) (by omega) (by omega), lowc 3 3 (by decide) (by unfold scr; omega) (by omega) (by omega), lowc 3 4 (by decide) (by unfold scr; omega) (by omega) (by omega), lowc 3 5 (by decide) (by unfold scr; omega) (by omega) (by omega), lowc 3 6 (by decide) (by unfold scr; omega) (by omega) (by omega), e44 0 (by decide), e44 3 (by decide), e44 4 (by decide), e44 5 (by decide), e44 6 (by decide)]
    refine ⟨h3.1, h3.2.1, h3.2.2.1, h3.2.2.2.1, h3.2.2.2.2.1, fun p hp => ?_⟩
    rw [lowc 4 p (by decide) (by unfold scr; omega) (by omega) (by omega), lowc 5 p (by decide) (by unfold scr; omega) (by omega) (by omega), e.at (by omega), e.at (by omega)]
    exact h3.2.2.2.2.2 p hp
  · refine ⟨by rw [lowc 0 8 (by decide) (by unfold scr; omega) (by omega) (by omega), e44 8 (by decide)]; exact h4.1, fun m hm => ?_⟩
    rw [e44 8 (by decide)] at hm
    obtain ⟨y, y1, y2, y3, y4, y5⟩ := h4.2 m hm
    refine ⟨y, by rw [r9]; exact y1, (y2.eq e (fun x k hx1 hx2 => ?_)).ex ex y5, y3, y4, by omega⟩
    have yy := y2.1.2
    have yn := y2.2.1
    unfold Dj at y3 y4
    exact q x k (by omega) (by omega) (by unfold scr; omega) (by omega) (by omega) (by omega) (by omega)
  · refine ⟨by rw [lowc 0 9 (by decide) (by unfold scr; omega) (by omega) (by omega), e44 14 (by decide)]; exact h5.1, fun p hp => ?_⟩
    rw [e44 14 (by decide)] at hp
    obtain ⟨y, y1, y2, y3, y4, y5⟩ := h5.2 p hp
    have e52 : J 52 p = I 52 p := e.at (by omega)
    refine ⟨y, by rw [r10]; exact y1, (y2.eq e (fun x k hx1 hx2 => ?_)).ex ex (by rw [e52]; exact y5), by rw [e52]; exact y3, by rw [e52]; exact y4, by rw [e52]; omega⟩
    have yy := y2.1
    unfold Dj at y3 y4
    by_cases z : I 52 p = 4
    · rw [if_pos z] at y3 y4 y5 hx2
      exact q x k (by omega) (by omega) (by unfold scr; omega) (by omega) (by omega) (by omega) (by omega)
    · rw [if_neg z] at y3 y4 y5 hx2
      exact q x k (by omega) (by omega) (by unfold scr; omega) (by omega) (by omega) (by omega) (by omega)
  · exact hkc
  · exact ⟨by rw [lowc 0 10 (by decide) (by unfold scr; omega) (by omega) (by omega), e44 7 (by decide)]; exact h7.1, h11⟩
  · unfold rIm
    rw [lowc 0 13 (by decide) (by unfold scr; omega) (by omega) (by omega), e44 22 (by decide), e44 23 (by decide), e44 7 (by decide), e44 0 (by decide)]
    obtain ⟨h80, h8⟩ := h8
    refine ⟨h80, ?_⟩
    rcases h8 with z | ⟨z1, z2, z3, z4⟩
    · exact Or.inl z
    · refine Or.inr ⟨z1, z2, z3, fun w p hp => ?_⟩
      rw [lowc 23 p (by decide) (by unfold scr; omega) (by omega) (by omega), e.at (by omega)]
      exact z4 w p hp
  · have th : ht ≤ 40 ∨ 77 ≤ ht := by omega
    unfold Dj at x6
    refine ⟨by rw [r06]; exact x1, by rw [r07]; exact x2, x3.ex ex (by omega), x4, x5.ex ex (by omega), x6, by omega, by omega, ?_, ?_⟩
    · rw [q ht 0 th (by omega) (by unfold scr; omega) (by omega) (by omega) (by omega) (by omega)]
      exact x9
    · rw [q ht 1 th (by omega) (by unfold scr; omega) (by omega) (by omega) (by omega) (by omega)]
      exact x10
theorem sN_new {sh : oS} {kd ln : Nat} : sN (sNew sh kd ln) = sN sh + 1 := rfl
theorem sEx.new {sh : oS} {kd ln : Nat} : sEx sh (sNew sh kd ln) := by
  refine ⟨Nat.le_succ _, fun h hh => ⟨?_, ?_⟩, fun h k hh _ _ _ => ?_⟩
  · show (if h = sh.1 then kd else sh.2.1 h) = sh.2.1 h
    exact if_neg (by have : h < sh.1 := hh; omega)
  · show (if h = sh.1 then ln else sh.2.2.1 h) = sh.2.2.1 h
    exact if_neg (by have : h < sh.1 := hh; omega)
  · show (if h = sh.1 then none else sh.2.2.2 h k) = sh.2.2.2 h k
    exact if_neg (by have : h < sh.1 := hh; omega)
theorem sR_new {sh : oS} {kd ln h k : Nat} (hh : h < sN sh) : sR (sNew sh kd ln) h k = sR sh h k := by
  show (if h = sh.1 then none else sh.2.2.2 h k) = sh.2.2.2 h k
  exact if_neg (by have : h < sh.1 := hh; omega)
theorem sK_new {sh : oS} {kd ln : Nat} : sK (sNew sh kd ln) (sN sh) = kd := by
  show (if sh.1 = sh.1 then kd else sh.2.1 sh.1) = kd
  exact if_pos rfl
theorem sL_new {sh : oS} {kd ln : Nat} : sL (sNew sh kd ln) (sN sh) = ln := by
  show (if sh.1 = sh.1 then ln else sh.2.2.1 sh.1) = ln
  exact if_pos rfl
theorem sEx.t {a b c : oS} (h : sEx a b) (g : sEx b c) : sEx a c := by
  have h1 := h.1
  refine ⟨Nat.le_trans h.1 g.1, fun x hx => ⟨?_, ?_⟩, fun x k hx h9 h10 h0 => ?_⟩
  · rw [(g.2.1 x (by omega)).1, (h.2.1 x hx).1]
  · rw [(g.2.1 x (by omega)).2, (h.2.1 x hx).2]
  · rw [g.2.2 x k (by omega) h9 h10 h0, h.2.2 x k hx h9 h10 h0]
theorem iNew_lt {sh : oS} {I : Nat → Nat → Int} {x k : Nat} (h : x < sN sh) : iNew sh I x k = I x k := by
  show (if x = sh.1 then 0 else I x k) = I x k
  exact if_neg (by have : x < sh.1 := h; omega)
theorem put_eq {sh : oS} {h k h' k' : Nat} {v : Option Nat} (n : ¬ (h' = h ∧ k' = k)) : sR (sPutR sh h k v) h' k' = sR sh h' k' := by
  show u2R sh.2.2.2 h k v h' k' = sh.2.2.2 h' k'
  unfold u2R
  by_cases e : h' = h
  · rw [if_pos e, if_neg (fun z => n ⟨e, z⟩)]
  · rw [if_neg e]
theorem put_at {sh : oS} {h k : Nat} {v : Option Nat} : sR (sPutR sh h k v) h k = v := by
  show u2R sh.2.2.2 h k v h k = v
  unfold u2R
  rw [if_pos rfl, if_pos rfl]
/-- values that hang upon one plan and one march -/
theorem pm_eq {I Z : Nat → Nat → Int} {m p : Nat} (ok : mOK I) (hm : (m : Int) < I 44 8) (hp : (p : Int) < I 44 14) (h0 : I 44 0 ≠ 0) (e44 : Z 44 0 = I 44 0 ∧ Z 44 3 = I 44 3 ∧ Z 44 4 = I 44 4 ∧ Z 44 5 = I 44 5) (e45 : ∀ x, Z 45 x = I 45 x ∧ Z 46 x = I 46 x) (e47 : Z 47 m = I 47 m ∧ Z 50 m = I 50 m) (e48 : ∀ d : Nat, (d : Int) < I 47 m → Z 48 (10 * m + d) = I 48 (10 * m + d) ∧ Z 49 (10 * m + d) = I 49 (10 * m + d)) (e52 : Z 52 p = I 52 p ∧ Z 53 p = I 53 p ∧ Z 54 p = I 54 p) (e55 : ∀ x, x < 18 → Z 55 (18 * p + x) = I 55 (18 * p + x)) : (∀ more way last so, pEv Z m p more way last so = pEv I m p more way last so) ∧ vOn Z m = vOn I m ∧ pBs Z m p = pBs I m p := by
  have vf : vF Z = vF I := by funext x; unfold vF; rw [e44.1, (e45 x).1]
  have vw : vW Z = vW I := by funext x; unfold vW; rw [e44.1, (e45 x).2]
  have vs : vS Z m = vS I m := by
    funext d
    unfold vS
    rw [e47.1]
    split
    · exact (e48 d (by assumption)).1
    · rfl
  have vm : vM Z m = vM I m := by
    funext d
    unfold vM
    rw [e47.1]
    split
    · exact (e48 d (by assumption)).2
    · rfl
  have vo : vOn Z m = vOn I m := by unfold vOn; rw [e47.2]
  have om := ok.2.2.2.2.2.2.2.2.1 m hm
  have oo := ok.1
  have op := (ok.2.2.2.2.2.2.2.2.2.2 p hp).2
  have pr : ∀ more, pRaw Z m p more = pRaw I m p more := fun more => by
    unfold pRaw
    rw [vf, vw, vs, vm, vo, e44.1, e44.2.1, e44.2.2.1, e44.2.2.2, e47.1, e52.1, e52.2.1, e52.2.2]
    have nn : (I 47 m) = ((I 47 m).toNat : Int) := by omega
    rw [nn]
    obtain ⟨⟨o1, o1'⟩, o2, o3, o4, o5⟩ := op
    exact rawL_cg (D := (I 47 m).toNat) (by omega) (by omega) (fun y0 y3 y4 => by have := o4 (by omega); omega) (fun _ _ => rfl) (fun _ _ => rfl) (fun _ _ => rfl) (fun _ _ => rfl) e55
  refine ⟨fun more way last so => ?_, vo, ?_⟩
  · unfold pEv
    rw [pr, vf, vs, vm, e44.1, e44.2.1, e44.2.2.1, e44.2.2.2]
  · unfold pBs
    rw [vf, vw, vs, vm, vo, e44.1, e44.2.1, e44.2.2.1, e44.2.2.2, e47.1, e52.2.1]
/-- what is kept stays right when plans and marches come -/
theorem rKc.add {I Z : Nat → Nat → Int} (h : rKc I) (ok : mOK I) (q : ∀ x, Z 41 x = I 41 x ∧ Z 42 x = I 42 x ∧ Z 43 x = I 43 x) (l14 : I 44 14 ≤ Z 44 14) (l8 : I 44 8 ≤ Z 44 8) (e44 : Z 44 0 = I 44 0 ∧ Z 44 3 = I 44 3 ∧ Z 44 4 = I 44 4 ∧ Z 44 5 = I 44 5) (e45 : ∀ x, Z 45 x = I 45 x ∧ Z 46 x = I 46 x) (e47 : ∀ m : Nat, (m : Int) < I 44 8 → Z 47 m = I 47 m ∧ Z 50 m = I 50 m) (e48 : ∀ m d : Nat, (m : Int) < I 44 8 → (d : Int) < I 47 m → Z 48 (10 * m + d) = I 48 (10 * m + d) ∧ Z 49 (10 * m + d) = I 49 (10 * m + d)) (e52 : ∀ p : Nat, (p : Int) < I 44 14 → (Z 52 p = I 52 p ∧ Z 53 p = I 53 p ∧ Z 54 p = I 54 p) ∧ ∀ x, x < 18 → Z 55 (18 * p + x) = I 55 (18 * p + x)) : rKc Z := by
  refine ⟨fun p m w hp hm hw => ?_, fun p m hp hm => ?_⟩
  · rw [(q _).1, (q _).2.1]
    rcases h.1 p m w hp hm hw with x | ⟨⟨x1, x2, x3, x4⟩, x5⟩
    · exact Or.inl x
    · obtain ⟨y1, y2, y3⟩ := pm_eq ok x2 x1 x4 e44 e45 (e47 m x2) (fun d hd => e48 m d x2 hd) (e52 p x1).1 (e52 p x1).2
      refine Or.inr ⟨⟨by omega, by omega, by rw [y2]; exact x3, by rw [e44.1]; exact x4⟩, ?_⟩
      rw [y1, (e47 m x2).1]
      exact x5
  · rw [(q _).2.2]
    rcases h.2 p m hp hm with x | ⟨⟨x1, x2, x3, x4⟩, x5⟩
    · exact Or.inl x
    · obtain ⟨y1, y2, y3⟩ := pm_eq ok x2 x1 x3 e44 e45 (e47 m x2) (fun d hd => e48 m d x2 hd) (e52 p x1).1 (e52 p x1).2
      refine Or.inr ⟨⟨by omega, by omega, by rw [e44.1]; exact x3, by rw [(e52 p x1).1.1]; exact x4⟩, ?_⟩
      rw [y3, (e52 p x1).1.2.1]
      exact x5
