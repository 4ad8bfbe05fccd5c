/-! class and reference side by side -/
def prj (I : Nat → Nat → Int) : Nat → Nat → Int := fun h k => if (h = 44 ∧ k < 24) ∨ (45 ≤ h ∧ h ≤ 57) then I h k else 0
theorem pEv_prj (I : Nat → Nat → Int) (m p : Nat) (more way last so : Int) : pEv (prj I) m p more way last so = pEv I m p more way last so := rfl
theorem pRaw_prj (I : Nat → Nat → Int) (m p : Nat) (more : Int) : pRaw (prj I) m p more = pRaw I m p more := rfl
theorem vOn_prj (I : Nat → Nat → Int) (m : Nat) : vOn (prj I) m = vOn I m := rfl
theorem mOK_prj (I : Nat → Nat → Int) : mOK (prj I) = mOK I := rfl
/-- which class code the best choice has -/
noncomputable def pBs (I : Nat → Nat → Int) (m p : Nat) : Int := (bsS (bMay (I 44 0) (vW I) (I 53 p)) (fun c => evL (I 44 0) (I 47 m - 1) (vF I) (vM I m) (colP (I 44 0) (vS I m) (vOn I m)) (bTw (I 44 0) (vW I) (I 47 m) (I 53 p) c) (I 44 3) (I 44 4) (I 44 5) 0) (if I 53 p = 1 then 8 else 64)).1
theorem pBs_prj (I : Nat → Nat → Int) (m p : Nat) : pBs (prj I) m p = pBs I m p := rfl
/-- two stretches of cells have none in common -/
def Dj (a la b lb : Nat) : Prop := a + la ≤ b ∨ b + lb ≤ a
def mRel (sh : oS) (I : Nat → Nat → Int) (m h : Nat) : Prop := MA sh h ∧ h ≠ 11 ∧ I h 0 = I 47 m ∧ I h 1 = I 50 m ∧ (∀ d : Nat, (d : Int) < I 47 m → I (h + 1) d = I 49 (10 * m + d) ∧ I (h + 2) d = I 48 (10 * m + d)) ∧ ∀ c : Nat, (c : Int) < I 50 m → I (h + 3) c = I 51 (2 * m + c)
def pRel (sh : oS) (I : Nat → Nat → Int) (p g : Nat) : Prop := pK sh I g (I 52 p) (I 53 p) (I 54 p) (fun x => I 55 (18 * p + x))
def rS (I : Nat → Nat → Int) (b : Nat) : Prop := mOK I ∧ (I 44 3 ≤ 99 ∧ I 44 5 ≤ 9 ∧ ∀ p, p < 8 → I 45 p ≤ 999) ∧ (0 ≤ I 44 21 ∧ I 44 21 ≤ 30) ∧ (0 ≤ I 44 19 ∧ I 44 19 ≤ 60) ∧ (∀ x : Nat, (x : Int) < I 44 19 → 1 ≤ I 56 x ∧ I 56 x ≤ 126) ∧ 0 ≤ I 44 7 ∧ I 44 7 ≤ b
def rPg (I : Nat → Nat → Int) : Prop := I 1 1 = I 44 19 ∧ ∀ x : Nat, (x : Int) < I 44 19 → I 2 x = I 56 x
def rLd (I : Nat → Nat → Int) : Prop := I 3 0 = I 44 0 ∧ I 3 3 = I 44 3 ∧ I 3 4 = I 44 4 ∧ I 3 5 = I 44 5 ∧ I 3 6 = I 44 6 ∧ ∀ p : Nat, (p : Int) < I 44 0 → I 4 p = I 45 p ∧ I 5 p = I 46 p
def rMa (sh : oS) (I : Nat → Nat → Int) (hn ht : Nat) : Prop := I 0 8 = I 44 8 ∧ ∀ m : Nat, (m : Int) < I 44 8 → ∃ h, sR sh 9 m = some h ∧ mRel sh I m h ∧ Dj h 4 hn 4 ∧ Dj h 4 ht 4 ∧ h + 4 ≤ sN sh
def rPl (sh : oS) (I : Nat → Nat → Int) (hn ht : Nat) : Prop := I 0 9 = I 44 14 ∧ ∀ p : Nat, (p : Int) < I 44 14 → ∃ g, sR sh 10 p = some g ∧ pRel sh I p g ∧ Dj g (if I 52 p = 4 then 4 else 1) hn 4 ∧ Dj g (if I 52 p = 4 then 4 else 1) ht 4 ∧ g + (if I 52 p = 4 then 4 else 1) ≤ sN sh
def rKc (I : Nat → Nat → Int) : Prop := (∀ p m w : Nat, p < 8 → m < 4 → w < 4 → I 41 (16 * p + 4 * m + w) = -1 ∨ (((p : Int) < I 44 14 ∧ (m : Int) < I 44 8 ∧ (w : Int) ≤ vOn I m ∧ I 44 0 ≠ 0) ∧ ((I 41 (16 * p + 4 * m + w), I 42 (16 * p + 4 * m + w)) = pEv I m p 0 w (I 47 m - 1) 0 ∧ (0 ≤ I 41 (16 * p + 4 * m + w) ∧ I 41 (16 * p + 4 * m + w) ≤ 990) ∧ 0 ≤ I 42 (16 * p + 4 * m + w) ∧ I 42 (16 * p + 4 * m + w) ≤ 13860))) ∧ ∀ p m : Nat, p < 8 → m < 4 → I 43 (4 * p + m) = -1 ∨ (((p : Int) < I 44 14 ∧ (m : Int) < I 44 8 ∧ I 44 0 ≠ 0 ∧ I 52 p = 3) ∧ I 43 (4 * p + m) = cdC (I 53 p) (pBs I m p))
def rIm (I : Nat → Nat → Int) : Prop := (I 44 0 ≠ 0 → 1 ≤ I 44 7) ∧ ((I 44 22 = 0 ∧ I 0 13 = 0) ∨ (I 44 22 = 1 ∧ I 0 13 = I 44 23 ∧ (1 ≤ I 44 23 ∧ I 44 23 ≤ I 44 7) ∧ (I 44 23 = I 44 7 → ∀ p : Nat, (p : Int) < I 44 0 → I 23 p = I 57 p ∧ 0 ≤ I 57 p ∧ I 57 p ≤ 999)))
def rNx (sh : oS) (I : Nat → Nat → Int) (hn ht : Nat) : Prop := sR sh 0 6 = some hn ∧ sR sh 0 7 = some ht ∧ MA sh hn ∧ hn ≠ 11 ∧ TA sh ht ∧ Dj hn 4 ht 4 ∧ hn + 4 ≤ sN sh ∧ ht + 4 ≤ sN sh ∧ I ht 0 = 0 ∧ I ht 1 = 0
def RelX (sh : oS) (I : Nat → Nat → Int) (b hn ht : Nat) (a : Int) : Prop := rS I b ∧ rPg I ∧ rLd I ∧ rMa sh I hn ht ∧ rPl sh I hn ht ∧ rKc I ∧ (I 0 10 = I 44 7 ∧ I 0 11 = I 44 21 + a) ∧ rIm I ∧ rNx sh I hn ht
/-- a: by how much the class is ahead in counting the five -/
def Rel (sh : oS) (I : Nat → Nat → Int) (b : Nat) (a : Int) : Prop := ∃ hn ht, RelX sh I b hn ht a
/-- the reference is as it was -/
def rfE (I J : Nat → Nat → Int) : Prop := prj J = prj I
theorem rfE.at {I J : Nat → Nat → Int} (h : rfE I J) {a k : Nat} (c : (a = 44 ∧ k < 24) ∨ (45 ≤ a ∧ a ≤ 57)) : J a k = I a k := by
  have e := congrFun (congrFun h a) k
  unfold prj at e
  rw [if_pos c, if_pos c] at e
  exact e
theorem rfE.of {I J : Nat → Nat → Int} (h : ∀ a k, (a = 44 ∧ k < 24) ∨ (45 ≤ a ∧ a ≤ 57) → J a k = I a k) : rfE I J := by
  funext a k
  unfold prj
  by_cases c : (a = 44 ∧ k < 24) ∨ (45 ≤ a ∧ a ≤ 57)
  · rw [if_pos c, if_pos c, h a k c]
  · rw [if_neg c, if_neg c]
theorem rfE.t {I J K : Nat → Nat → Int} (h : rfE I J) (g : rfE J K) : rfE I K := Eq.trans g h
theorem rfE.ev {I J : Nat → Nat → Int} (h : rfE I J) (m p : Nat) (more way last so : Int) : pEv J m p more way last so = pEv I m p more way last so := by
  rw [← pEv_prj J, ← pEv_prj I, h]
theorem rfE.raw {I J : Nat → Nat → Int} (h : rfE I J) (m p : Nat) (more : Int) : pRaw J m p more = pRaw I m p more := by
  rw [← pRaw_prj J, ← pRaw_prj I, h]
theorem rfE.on {I J : Nat → Nat → Int} (h : rfE I J) (m : Nat) : vOn J m = vOn I m := by
  rw [← vOn_prj J, ← vOn_prj I, h]
theorem rfE.bs {I J : Nat → Nat → Int} (h : rfE I J) (m p : Nat) : pBs J m p = pBs I m p := by
  rw [← pBs_prj J, ← pBs_prj I, h]
theorem rfE.ok {I J : Nat → Nat → Int} (h : rfE I J) : mOK J = mOK I := by
  rw [← mOK_prj J, ← mOK_prj I, h]
/-- cells that hold nothing from call to call -/
def scr (h k : Nat) : Prop := h = 6 ∨ h = 7 ∨ h = 8 ∨ (11 ≤ h ∧ h ≤ 14) ∨ (24 ≤ h ∧ h ≤ 40) ∨ (h = 1 ∧ k = 2)
theorem mRel.eq {sh : oS} {I J : Nat → Nat → Int} {m h : Nat} (a : mRel sh I m h) (e : rfE I J) (q : ∀ x k, h ≤ x → x ≤ h + 3 → J x k = I x k) : mRel sh J m h := by
  obtain ⟨a1, a2, a3, a4, a5, a6⟩ := a
  have e47 : J 47 m = I 47 m := e.at (by omega)
  have e50 : J 50 m = I 50 m := e.at (by omega)
  refine ⟨a1, a2, by rw [q h 0 (by omega) (by omega), e47]; exact a3, by rw [q h 1 (by omega) (by omega), e50]; exact a4, fun d hd => ?_, fun c hc => ?_⟩
  · rw [e47] at hd
    rw [q _ d (by omega) (by omega), q _ d (by omega) (by omega), e.at (by omega), e.at (by omega)]
    exact a5 d hd
  · rw [e50] at hc
    rw [q _ c (by omega) (by omega), e.at (by omega)]
    exact a6 c hc
theorem pK.eq {sh : oS} {I J : Nat → Nat → Int} {g : Nat} {kind k n : Int} {T T' : Nat → Int} (a : pK sh I g kind k n T) (hT : ∀ x, x < 18 → T' x = T x) (q : ∀ x k, g ≤ x → x < g + (if kind = 4 then 4 else 1) → J x k = I x k) : pK sh J g kind k n T' := by
  obtain ⟨a1, a2, a3, a4⟩ := a
  have e0 : ∀ x, J g x = I g x := fun x => q g x (Nat.le_refl _) (by split <;> omega)
  refine ⟨a1, by rw [e0]; exact a2, by rw [e0]; exact a3, ?_⟩
  rcases a4 with c | c | c | c | ⟨c1, c2, c3, c4, c5, c, c6, c7, c8, c9⟩
  · exact Or.inl c
  · exact Or.inr (Or.inl c)
  · exact Or.inr (Or.inr (Or.inl c))
  · exact Or.inr (Or.inr (Or.inr (Or.inl c)))
  · refine Or.inr (Or.inr (Or.inr (Or.inr ⟨c1, c2, c3, c4, c5, c, c6, by rw [e0]; exact c7, fun i hi => ?_, fun i h1 h2 => by rw [hT _ (by omega)]; exact c9 i h1 h2⟩)))
    rw [if_pos c2] at q
    rw [q _ i (by omega) (by omega), q _ i (by omega) (by omega), q _ i (by omega) (by omega), hT _ (by omega), hT _ (by omega), hT _ (by omega)]
    exact c8 i hi
theorem pRel.eq {sh : oS} {I J : Nat → Nat → Int} {p g : Nat} (a : pRel sh I p g) (e : rfE I J) (q : ∀ x k, g ≤ x → x < g + (if I 52 p = 4 then 4 else 1) → J x k = I x k) : pRel sh J p g := by
  unfold pRel
  rw [e.at (a := 52) (by omega), e.at (a := 53) (by omega), e.at (a := 54) (by omega)]
  exact pK.eq a (fun x _ => e.at (by omega)) q
/-- what may have changed while a question was answered -/
theorem RelX.fr {sh : oS} {I J : Nat → Nat → Int} {b hn ht : Nat} {a a' : Int} (h : RelX sh I b hn ht a) (e : rfE I J) (hkc : rKc J) (h11 : J 0 11 = J 44 21 + a') (q : ∀ x k, (x ≤ 40 ∨ 77 ≤ x) → ¬ scr x k → ¬ (x = 0 ∧ k = 11) → ¬ (hn ≤ x ∧ x ≤ hn + 3) → ¬ (ht < x ∧ x ≤ ht + 3) → ¬ (x = ht ∧ 2 ≤ k) → J x k = I x k) : RelX sh J b hn ht a' := by
  obtain ⟨h1, h2, h3, h4, h5, h6, h7, h8, h9⟩ := h
  obtain ⟨s1, s2, s3, s4, s5, s6⟩ := h1
  have e44 : ∀ k, k < 24 → J 44 k = I 44 k := fun k hk => e.at (by omega)
  obtain ⟨x1, x2, x3, x4, x5, x6, x7, x8, x9, x10⟩ := id h9
  have hn2 := x3.2
  have ht2 := x5.2
  have lowc : ∀ x k, x ≤ 40 → ¬ scr x k → ¬ (x = 0 ∧ k = 11) → ¬ (15 ≤ x ∧ x ≤ 22) → J x k = I x k := fun x k hx hs h0 hr => q x k (by omega) hs h0 (by omega) (by omega) (by omega)
  refine ⟨⟨by rw [e.ok]; exact s1, by rw [e44 3 (by decide), e44 5 (by decide)]; exact ⟨s2.1, s2.2.1, fun p hp => by rw [e.at (by omega)]; exact s2.2.2 p hp⟩, by rw [e44 21 (by decide)]; exact s3, by rw [e44 19 (by decide)]; exact s4, fun x hx => by rw [e44 19 (by decide)] at hx; rw [e.at (by omega)]; exact s5 x hx, by rw [e44 7 (by decide)]; exact s6⟩, ?_, ?_, ?_, ?_, ?_, ?_, ?_, ?_⟩
  · refine ⟨by rw [lowc 1 1 (by decide) (by unfold scr; omega) (by omega) (by omega), e44 19 (by decide)]; exact h2.1, fun x hx => ?_⟩
    rw [e44 19 (by decide)] at hx
    rw [lowc 2 x (by decide) (by unfold scr; omega) (by omega) (by omega), e.at (by omega)]
    exact h2.2 x hx
  · unfold rLd
    rw [lowc 3 0 (by decide) (by unfold scr; omega) (by omega) (by omega), lowc 3 3 (by decide) (by unfold scr; omega) (by omega) (by omega), lowc 3 4 (by decide) (by unfold scr; omega) (by omega) (by omega), lowc 3 5 (by decide) (by unfold scr; omega) (by omega) (by omega), lowc 3 6 (by decide) (by unfold scr; omega) (by omega) (by omega), e44 0 (by decide), e44 3 (by decide), e44 4 (by decide), e44 5 (by decide), e44 6 (by decide)]
    refine ⟨h3.1, h3.2.1, h3.2.2.1, h3.2.2.2.1, h3.2.2.2.2.1, fun p hp => ?_⟩
    rw [lowc 4 p (by decide) (by unfold scr; omega) (by omega) (by omega), lowc 5 p (by decide) (by unfold scr; omega) (by omega) (by omega), e.at (by omega), e.at (by omega)]
    exact h3.2.2.2.2.2 p hp
  · refine ⟨by rw [lowc 0 8 (by decide) (by unfold scr; omega) (by omega) (by omega), e44 8 (by decide)]; exact h4.1, fun m hm => ?_⟩
    rw [e44 8 (by decide)] at hm
    obtain ⟨y, y1, y2, y3, y4, y5⟩ := h4.2 m hm
    refine ⟨y, y1, y2.eq e (fun x k hx1 hx2 => ?_), y3, y4, y5⟩
    have yy := y2.1.2
    have yn := y2.2.1
    unfold Dj at y3 y4
    exact q x k (by omega) (by unfold scr; omega) (by omega) (by omega) (by omega) (by omega)
  · refine ⟨by rw [lowc 0 9 (by decide) (by unfold scr; omega) (by omega) (by omega), e44 14 (by decide)]; exact h5.1, fun p hp => ?_⟩
    rw [e44 14 (by decide)] at hp
    obtain ⟨y, y1, y2, y3, y4, y5⟩ := h5.2 p hp
    have e52 : J 52 p = I 52 p := e.at (by omega)
    refine ⟨y, y1, y2.eq e (fun x k hx1 hx2 => ?_), by rw [e52]; exact y3, by rw [e52]; exact y4, by rw [e52]; exact y5⟩
    have yy := y2.1
    unfold Dj at y3 y4
    by_cases z : I 52 p = 4
    · rw [if_pos z] at y3 y4 hx2
      exact q x k (by omega) (by unfold scr; omega) (by omega) (by omega) (by omega) (by omega)
    · rw [if_neg z] at y3 y4 hx2
      exact q x k (by omega) (by unfold scr; omega) (by omega) (by omega) (by omega) (by omega)
  · exact hkc
  · exact ⟨by rw [lowc 0 10 (by decide) (by unfold scr; omega) (by omega) (by omega), e44 7 (by decide)]; exact h7.1, h11⟩
  · unfold rIm
    rw [lowc 0 13 (by decide) (by unfold scr; omega) (by omega) (by omega), e44 22 (by decide), e44 23 (by decide), e44 7 (by decide), e44 0 (by decide)]
    obtain ⟨h80, h8⟩ := h8
    refine ⟨h80, ?_⟩
    rcases h8 with z | ⟨z1, z2, z3, z4⟩
    · exact Or.inl z
    · refine Or.inr ⟨z1, z2, z3, fun w p hp => ?_⟩
      rw [lowc 23 p (by decide) (by unfold scr; omega) (by omega) (by omega), e.at (by omega)]
      exact z4 w p hp
  · have th : ht ≤ 40 ∨ 77 ≤ ht := by omega
    unfold Dj at x6
    refine ⟨x1, x2, x3, x4, x5, x6, x7, x8, ?_, ?_⟩
    · rw [q ht 0 th (by unfold scr; omega) (by omega) (by omega) (by omega) (by omega)]
      exact x9
    · rw [q ht 1 th (by unfold scr; omega) (by omega) (by omega) (by omega) (by omega)]
      exact x10
theorem rKc.eq {I J : Nat → Nat → Int} (h : rKc I) (e : rfE I J) (q : ∀ x, J 41 x = I 41 x ∧ J 42 x = I 42 x ∧ J 43 x = I 43 x) : rKc J := by
  refine ⟨fun p m w hp hm hw => ?_, fun p m hp hm => ?_⟩
  · rw [(q _).1, (q _).2.1, e.ev, e.on, e.at (a := 44) (by omega), e.at (a := 44) (by omega), e.at (a := 44) (by omega), e.at (a := 47) (by omega)]
    exact h.1 p m w hp hm hw
  · rw [(q _).2.2, e.bs, e.at (a := 44) (by omega), e.at (a := 44) (by omega), e.at (a := 44) (by omega), e.at (a := 52) (by omega), e.at (a := 53) (by omega)]
    exact h.2 p m hp hm
/-- the reference's questions leave all as it is -/
theorem Rel.frQ {sh : oS} {I J : Nat → Nat → Int} {b : Nat} {a : Int} (h : Rel sh I b a) (F : FrQ I J) : Rel sh J b a ∧ rfE I J := by
  obtain ⟨hn, ht, h⟩ := h
  have e : rfE I J := rfE.of (fun x k c => F x k (by simp <;> omega) (by simp <;> omega))
  refine ⟨⟨hn, ht, h.fr e ?_ ?_ (fun x k hx _ _ _ _ _ => F x k (by simp <;> omega) (by simp <;> omega))⟩, e⟩
  · exact h.2.2.2.2.2.1.eq e (fun x => ⟨F 41 x (by simp) (by simp), F 42 x (by simp) (by simp), F 43 x (by simp) (by simp)⟩)
  · rw [F 0 11 (by simp) (by simp), e.at (by omega)]
    exact h.2.2.2.2.2.2.1.2
