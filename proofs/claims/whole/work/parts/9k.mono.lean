/-! less flour, no fewer hungry -/
theorem ev_ex {sh : oS} (hs : Sh sh) {I : Nat → Nat → Int} (ok : mOK I) {m : Nat} {way last so : Int} {l : List stT} (hm : (m : Int) < I 44 8) (h0 : I 44 0 ≠ 0) (hn : l.length ≤ 40) (ho : stOK (I 44 0) (I 47 m) l) (hla : 0 ≤ last ∧ last < I 47 m) (hso : 0 ≤ so ∧ so ≤ 9) : ∃ v c, cBest (capL (I 44 0) last (vF I) (vM I m) (colP (I 44 0) (vS I m) way) l (I 44 3) (I 44 4) (I 44 5) so) (cW (colP (I 44 0) (vS I m) way)) v c := by
  obtain ⟨h1, h2, h3, h4, h5, h6, h7, h8, h9, -⟩ := ok
  have om := h9 m hm
  have eP : I 44 0 = ((I 44 0).toNat : Int) := by omega
  have eD : I 47 m = ((I 47 m).toNat : Int) := by omega
  rw [eP] at ho ⊢
  rw [eD] at ho hla
  refine best_ex hs (P := (I 44 0).toNat) (D := (I 47 m).toNat) (by omega) (by omega) (by omega) (by omega) (by omega) (fun p hp => ?_) (fun d hd => ?_) (fun d hd => ?_) hn ho hla hso
  · unfold vF
    rw [if_pos (by omega)]
    have := h6 p (by omega)
    omega
  · unfold vS
    rw [if_pos (by omega)]
    exact (om.2.2.1 d (by omega)).1
  · unfold vM
    rw [if_pos (by omega)]
    exact (om.2.2.1 d (by omega)).2
theorem ev_m {sh : oS} (hs : Sh sh) {I : Nat → Nat → Int} (ok : mOK I) {m : Nat} {way last so : Int} {l : List stT} (hm : (m : Int) < I 44 8) (h0 : I 44 0 ≠ 0) (hn : l.length ≤ 40) (ho : stOK (I 44 0) (I 47 m) l) (hla : 0 ≤ last ∧ last < I 47 m) (hso : 0 ≤ so ∧ so ≤ 9) : (evL (I 44 0) last (vF I) (vM I m) (colP (I 44 0) (vS I m) way) l (I 44 3) (I 44 4) (I 44 5) so).1 = sm (last + 1).toNat (vM I m) - mV (capL (I 44 0) last (vF I) (vM I m) (colP (I 44 0) (vS I m) way) l (I 44 3) (I 44 4) (I 44 5) so) := by
  obtain ⟨v, c, h⟩ := ev_ex hs ok (way := way) hm h0 hn ho hla hso
  unfold evL
  rw [bV_mV h]
theorem ev_le {sh : oS} (hs : Sh sh) {I : Nat → Nat → Int} (ok : mOK I) {m x : Nat} {way last so : Int} {l : List stT} (hm : (m : Int) < I 44 8) (h0 : I 44 0 ≠ 0) (hn : l.length ≤ 40) (ho : stOK (I 44 0) (I 47 m) l) (hla : 0 ≤ last ∧ last < I 47 m) (hso : 0 ≤ so ∧ so ≤ 9) : (evL (I 44 0) last (vF I) (vM I m) (colP (I 44 0) (vS I m) way) l (I 44 3) (I 44 4) (I 44 5) so).1 ≤ (evL (I 44 0) last (vF (u2 I 45 x 0)) (vM I m) (colP (I 44 0) (vS I m) way) l (I 44 3) (I 44 4) (I 44 5) so).1 := by
  have okR : mOK (u2 I 45 x 0) := ok.fl (by decide)
  obtain ⟨v, c, h⟩ := ev_ex hs ok (way := way) hm h0 hn ho hla hso
  obtain ⟨v2, c2, g⟩ := ev_ex (I := u2 I 45 x 0) (m := m) (l := l) (last := last) (so := so) hs okR (way := way) hm h0 hn ho hla hso
  have g : cBest (capL (I 44 0) last (vF (u2 I 45 x 0)) (vM I m) (colP (I 44 0) (vS I m) way) l (I 44 3) (I 44 4) (I 44 5) so) (cW (colP (I 44 0) (vS I m) way)) v2 c2 := g
  unfold evL
  rw [bV_is h, bV_is g]
  have := mV_mono g.max h.max (fun a ha => by
    unfold capL capJ cC
    by_cases z : a < 8
    · rw [if_pos z, if_pos z]
      have fb := ok.2.2.2.2.2.1 a z
      unfold FJ vF
      show (if (a : Int) < I 44 0 then (if (a : Int) < I 44 0 then (u2 I 45 x 0) 45 a else 0) else 0) ≤ _
      by_cases y : (a : Int) < I 44 0
      · rw [if_pos y, if_pos y, if_pos y, if_pos y]
        by_cases e : a = x
        · rw [e, uA]
          rw [e] at fb
          exact fb.1
        · rw [uK e]
          exact Int.le_refl _
      · rw [if_neg y, if_neg y]
        exact Int.le_refl _
    · rw [if_neg z, if_neg z]
      exact Int.le_refl _)
  dsimp only
  omega
theorem bsS_min {may : Nat → Bool} {E : Nat → Int × Int} : ∀ c : Nat, ((bsS may E c).1 = -1 ∧ ∀ c', c' < c → may c' = false) ∨ ∃ b : Nat, b < c ∧ bsS may E c = ((b : Int), E b) ∧ may b = true ∧ ∀ c', c' < c → may c' = true → (E b).1 ≤ (E c').1
  | 0 => Or.inl ⟨rfl, fun c' h => absurd h (Nat.not_lt_zero _)⟩
  | c + 1 => by
    have ih := bsS_min (may := may) (E := E) c
    unfold bsS
    by_cases z : may c = true ∧ ((bsS may E c).1 = -1 ∨ (E c).1 < (bsS may E c).2.1 ∨ (E c).1 = (bsS may E c).2.1 ∧ (E c).2 < (bsS may E c).2.2)
    · rw [if_pos z]
      refine Or.inr ⟨c, by omega, rfl, z.1, fun c' h h2 => ?_⟩
      by_cases y : c' = c
      · rw [y]; exact Int.le_refl _
      · rcases ih with ⟨-, i2⟩ | ⟨b, i1, i2, i3, i4⟩
        · rw [i2 c' (by omega)] at h2
          exact absurd h2 (by decide)
        · have := i4 c' (by omega) h2
          have z2 := z.2
          rw [i2] at z2
          dsimp only at z2
          omega
    · rw [if_neg z]
      rcases ih with ⟨i1, i2⟩ | ⟨b, i1, i2, i3, i4⟩
      · refine Or.inl ⟨i1, fun c' h => ?_⟩
        by_cases y : c' = c
        · rw [y]
          by_cases q : may c = true
          · exact absurd ⟨q, Or.inl i1⟩ z
          · simpa using q
        · exact i2 c' (by omega)
      · refine Or.inr ⟨b, by omega, i2, i3, fun c' h h2 => ?_⟩
        by_cases y : c' = c
        · subst y
          rw [i2] at z
          dsimp only at z
          have : ¬ ((E c').1 < (E b).1) := fun q => z ⟨h2, Or.inr (Or.inl q)⟩
          omega
        · exact i4 c' (by omega) h2
set_option maxHeartbeats 1000000 in
theorem bur_ge {sh : oS} (hs : Sh sh) {I : Nat → Nat → Int} (ok : mOK I) {m p x : Nat} (hp : (p : Int) < I 44 14) (hm : (m : Int) < I 44 8) (h0 : I 44 0 ≠ 0) : 0 ≤ burG I m p x := by
  have om := ok.2.2.2.2.2.2.2.2.1 m hm
  have hla : 0 ≤ I 47 m - 1 ∧ I 47 m - 1 < I 47 m := by omega
  have hso : (0 : Int) ≤ 0 ∧ (0 : Int) ≤ 9 := by decide
  have rok := ok.raw (more := 0) hp hm h0 (by decide)
  suffices h : anV I m p 0 ≤ anV (u2 I 45 x 0) m p 0 by
    unfold burG
    omega
  unfold anV pEv
  show (evL (I 44 0) (I 47 m - 1) (vF I) (vM I m) (colP (I 44 0) (vS I m) (vOn I m)) (pRaw I m p 0) (I 44 3) (I 44 4) (I 44 5) 0).1 ≤ (evL (I 44 0) (I 47 m - 1) (vF (u2 I 45 x 0)) (vM I m) (colP (I 44 0) (vS I m) (vOn I m)) (pRaw (u2 I 45 x 0) m p 0) (I 44 3) (I 44 4) (I 44 5) 0).1
  by_cases z : I 52 p = 3
  · have e1 : pRaw I m p 0 = bsL (I 44 0) (vW I) (I 47 m) (I 53 p + 0) (bsS (bMay (I 44 0) (vW I) (I 53 p + 0)) (fun c => evL (I 44 0) (I 47 m - 1) (vF I) (vM I m) (colP (I 44 0) (vS I m) (vOn I m)) (bTw (I 44 0) (vW I) (I 47 m) (I 53 p + 0) c) (I 44 3) (I 44 4) (I 44 5) 0) (if I 53 p + 0 = 1 then 8 else 64)).1 := by
      unfold pRaw rawL
      rw [if_neg (by omega), if_pos z]
    have e2 : pRaw (u2 I 45 x 0) m p 0 = bsL (I 44 0) (vW I) (I 47 m) (I 53 p + 0) (bsS (bMay (I 44 0) (vW I) (I 53 p + 0)) (fun c => evL (I 44 0) (I 47 m - 1) (vF (u2 I 45 x 0)) (vM I m) (colP (I 44 0) (vS I m) (vOn I m)) (bTw (I 44 0) (vW I) (I 47 m) (I 53 p + 0) c) (I 44 3) (I 44 4) (I 44 5) 0) (if I 53 p + 0 = 1 then 8 else 64)).1 := by
      unfold pRaw rawL
      have z' : (u2 I 45 x 0) 52 p = 3 := z
      rw [if_neg (by omega), if_pos z']
      rfl
    rw [e1, e2]
    generalize hE : (fun c => evL (I 44 0) (I 47 m - 1) (vF I) (vM I m) (colP (I 44 0) (vS I m) (vOn I m)) (bTw (I 44 0) (vW I) (I 47 m) (I 53 p + 0) c) (I 44 3) (I 44 4) (I 44 5) 0) = E
    generalize hE2 : (fun c => evL (I 44 0) (I 47 m - 1) (vF (u2 I 45 x 0)) (vM I m) (colP (I 44 0) (vS I m) (vOn I m)) (bTw (I 44 0) (vW I) (I 47 m) (I 53 p + 0) c) (I 44 3) (I 44 4) (I 44 5) 0) = E2
    have a1 := bsS_min (may := bMay (I 44 0) (vW I) (I 53 p + 0)) (E := E) (if I 53 p + 0 = 1 then 8 else 64)
    have a2 := bsS_min (may := bMay (I 44 0) (vW I) (I 53 p + 0)) (E := E2) (if I 53 p + 0 = 1 then 8 else 64)
    rcases a1 with ⟨b1, b2⟩ | ⟨b, b1, b2, b3, b4⟩
    · rcases a2 with ⟨c1, -⟩ | ⟨c, c1, c2, c3, -⟩
      · rw [b1, c1]
        unfold bsL
        rw [if_pos rfl]
        exact ev_le hs ok hm h0 (by simp) stOK_nil hla hso
      · rw [b2 c c1] at c3
        exact absurd c3 (by decide)
    · rcases a2 with ⟨-, c2⟩ | ⟨c, c1, c2, c3, -⟩
      · rw [c2 b b1] at b3
        exact absurd b3 (by decide)
      · rw [b2, c2]
        unfold bsL
        dsimp only
        rw [if_neg (by omega), if_neg (by omega), Int.toNat_natCast, Int.toNat_natCast]
        have h1 := b4 c c1 c3
        have h2 : (E c).1 ≤ (E2 c).1 := by
          rw [← hE, ← hE2]
          exact ev_le hs ok hm h0 (Nat.le_trans two_len (by decide)) bTw_ok hla hso
        have h3 : E b = evL (I 44 0) (I 47 m - 1) (vF I) (vM I m) (colP (I 44 0) (vS I m) (vOn I m)) (bTw (I 44 0) (vW I) (I 47 m) (I 53 p + 0) b) (I 44 3) (I 44 4) (I 44 5) 0 := by rw [← hE]
        have h4 : E2 c = evL (I 44 0) (I 47 m - 1) (vF (u2 I 45 x 0)) (vM I m) (colP (I 44 0) (vS I m) (vOn I m)) (bTw (I 44 0) (vW I) (I 47 m) (I 53 p + 0) c) (I 44 3) (I 44 4) (I 44 5) 0 := by rw [← hE2]
        rw [← h3, ← h4]
        exact Int.le_trans h1 h2
  · have e : pRaw (u2 I 45 x 0) m p 0 = pRaw I m p 0 := by
      unfold pRaw rawL
      have z' : ¬ (u2 I 45 x 0) 52 p = 3 := z
      by_cases y : I 52 p = 0
      · have y' : (u2 I 45 x 0) 52 p = 0 := y
        rw [if_pos y', if_pos y]
        rfl
      · have y' : ¬ (u2 I 45 x 0) 52 p = 0 := y
        rw [if_neg y', if_neg y, if_neg z', if_neg z]
        rfl
    rw [e]
    exact ev_le hs ok hm h0 rok.2 rok.1 hla hso
