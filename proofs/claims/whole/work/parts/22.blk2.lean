set_option maxRecDepth 4000 in
theorem B_X11_added_0 {Q : oQ} {K : oK} (hK : oCl tb_X11_added Q K) {sh : oS} (hs : Sh sh) {I : Nat → Nat → Int} {L : Nat → Nat → Int64} {h1 : Nat} (n6a : inR (I 0 9)) (kt : I 0 9 < 8 → K 12 [some (vR 0), some (vR h1)] [] (sh, I, L) (0, 0)) (kf : ¬ (I 0 9 < 8) → K 9 [none, none] [] (sh, I, L) (0, 0)) : K 0 [some (vR 0), some (vR h1)] [] (sh, I, L) (0, 0) := by
  refine hK.1 0 [some (vR 0), some (vR h1)] [] (sh, I, L) (0, 0) ?_
  refine hK.1 1 [some (vR 0), some (vR h1)] [vR 0] (sh, I, L) (0, 0) ?_
  refine And.intro (mem1 (sk_0 hs)) ?_
  refine hK.1 4 [some (vR 0), some (vR h1)] [vI (I 0 9)] (sh, I, L) (0, 0) ?_
  refine hK.1 6 [some (vR 0), some (vR h1)] [vI 8, vI (I 0 9)] (sh, I, L) (0, 0) ?_
  exact And.intro (And.intro n6a ⟨by decide, by decide⟩) (And.intro (fun h => hK.2 [true, true] _ _ _ _ _ (kt h)) (fun h => hK.2 [false, false] _ _ _ _ _ (kf h)))
set_option maxRecDepth 4000 in
theorem B_X11_added_9 {Q : oQ} {K : oK} (hK : oCl tb_X11_added Q K) {sh : oS} {I : Nat → Nat → Int} {L : Nat → Nat → Int64}  (k : Q (some (vI (-104))) (sh, I, L)) : K 9 [none, none] [] (sh, I, L) (0, 0) := by
  refine hK.1 9 [none, none] [] (sh, I, L) (0, 0) ?_
  refine hK.1 11 [none, none] [vI (-104)] (sh, I, L) (0, 0) ?_
  exact And.intro ⟨by decide, by decide⟩ k
set_option maxRecDepth 4000 in
theorem B_X11_added_12 {Q : oQ} {K : oK} (hK : oCl tb_X11_added Q K) {sh : oS} (hs : Sh sh) {I : Nat → Nat → Int} {L : Nat → Nat → Int64} {h1 : Nat} (b21 : 0 ≤ I 0 9 ∧ I 0 9 < 8) (kh1_1 : sK sh h1 ∈ [0, 1, 3, 5, 10]) (k : K 22 [some (vR 0), none] [] ((sPutR sh 10 ((I 0 9).toNat) (some h1)), I, L) (0, 0)) : K 12 [some (vR 0), some (vR h1)] [] (sh, I, L) (0, 0) := by
  refine hK.1 12 [some (vR 0), some (vR h1)] [] (sh, I, L) (0, 0) ?_
  refine hK.1 13 [some (vR 0), some (vR h1)] [vR 0] (sh, I, L) (0, 0) ?_
  refine And.intro (mem1 (sk_0 hs)) (Exists.intro 10 (And.intro (sr_0_4 hs) ?_))
  refine hK.1 16 [some (vR 0), some (vR h1)] [vR 10] (sh, I, L) (0, 0) ?_
  refine hK.1 17 [some (vR 0), some (vR h1)] [vR 0, vR 10] (sh, I, L) (0, 0) ?_
  refine And.intro (mem1 (sk_0 hs)) ?_
  refine hK.1 20 [some (vR 0), some (vR h1)] [vI (I 0 9), vR 10] (sh, I, L) (0, 0) ?_
  refine hK.1 21 [some (vR 0), some (vR h1)] [vR h1, vI (I 0 9), vR 10] (sh, I, L) (0, 0) ?_
  refine And.intro (And.intro (sk_10 hs) (And.intro ((ixL (sl_10 hs) b21)).1 (And.intro ((ixL (sl_10 hs) b21)).2 (kh1_1)))) ?_
  refine hK.2 [true, false] _ _ _ _ _ ?_
  exact k
set_option maxRecDepth 4000 in
theorem B_X11_added_22 {Q : oQ} {K : oK} (hK : oCl tb_X11_added Q K) {sh : oS} (hs : Sh sh) {I : Nat → Nat → Int} {L : Nat → Nat → Int64}  (k : Q (some (vI (((I 0 9) + 1) - 1))) (sh, (u2 I 0 9 ((I 0 9) + 1)), L)) : K 22 [some (vR 0), none] [] (sh, I, L) (0, 0) := by
  refine hK.1 22 [some (vR 0), none] [] (sh, I, L) (0, 0) ?_
  refine hK.1 23 [some (vR 0), none] [vR 0] (sh, I, L) (0, 0) ?_
  refine hK.1 24 [some (vR 0), none] [vR 0, vR 0] (sh, I, L) (0, 0) ?_
  refine And.intro (mem1 (sk_0 hs)) ?_
  refine hK.1 27 [some (vR 0), none] [vI (I 0 9), vR 0] (sh, I, L) (0, 0) ?_
  refine hK.1 28 [some (vR 0), none] [vI 1, vI (I 0 9), vR 0] (sh, I, L) (0, 0) ?_
  refine hK.1 29 [some (vR 0), none] [vI ((I 0 9) + 1), vR 0] (sh, I, L) (0, 0) ?_
  refine And.intro (mem1 (sk_0 hs)) ?_
  refine hK.1 32 [some (vR 0), none] [] (sh, (u2 I 0 9 ((I 0 9) + 1)), L) (0, 0) ?_
  refine hK.1 33 [some (vR 0), none] [vR 0] (sh, (u2 I 0 9 ((I 0 9) + 1)), L) (0, 0) ?_
  refine And.intro (mem1 (sk_0 hs)) ?_
  refine hK.1 36 [some (vR 0), none] [vI ((I 0 9) + 1)] (sh, (u2 I 0 9 ((I 0 9) + 1)), L) (0, 0) ?_
  refine hK.1 37 [some (vR 0), none] [vI 1, vI ((I 0 9) + 1)] (sh, (u2 I 0 9 ((I 0 9) + 1)), L) (0, 0) ?_
  refine hK.1 38 [some (vR 0), none] [vI (((I 0 9) + 1) - 1)] (sh, (u2 I 0 9 ((I 0 9) + 1)), L) (0, 0) ?_
  exact And.intro ⟨by decide, by decide⟩ k
set_option maxRecDepth 4000 in
theorem B_X11_planOf_0 {Q : oQ} {K : oK} (hK : oCl tb_X11_planOf Q K) {sh : oS} {I : Nat → Nat → Int} {L : Nat → Nat → Int64} {x1 : Int} (n1 : inR x1) (kt : x1 < 0 → K 21 [none, none] [] (sh, I, L) (0, 0)) (kf : ¬ (x1 < 0) → K 4 [some (vR 0), some (vI x1)] [] (sh, I, L) (0, 0)) : K 0 [some (vR 0), some (vI x1)] [] (sh, I, L) (0, 0) := by
  refine hK.1 0 [some (vR 0), some (vI x1)] [] (sh, I, L) (0, 0) ?_
  refine hK.1 1 [some (vR 0), some (vI x1)] [vI x1] (sh, I, L) (0, 0) ?_
  exact And.intro (n1) (And.intro (fun h => hK.2 [false, false] _ _ _ _ _ (kt h)) (fun h => hK.2 [true, true] _ _ _ _ _ (kf h)))
set_option maxRecDepth 4000 in
theorem B_X11_planOf_4 {Q : oQ} {K : oK} (hK : oCl tb_X11_planOf Q K) {sh : oS} (hs : Sh sh) {I : Nat → Nat → Int} {L : Nat → Nat → Int64} {x1 : Int} (n9a : inR x1) (n9b : inR (I 0 9)) (kt : I 0 9 ≤ x1 → K 21 [none, none] [] (sh, I, L) (0, 0)) (kf : ¬ (I 0 9 ≤ x1) → K 12 [some (vR 0), some (vI x1)] [] (sh, I, L) (0, 0)) : K 4 [some (vR 0), some (vI x1)] [] (sh, I, L) (0, 0) := by
  refine hK.1 4 [some (vR 0), some (vI x1)] [] (sh, I, L) (0, 0) ?_
  refine hK.1 5 [some (vR 0), some (vI x1)] [vI x1] (sh, I, L) (0, 0) ?_
  refine hK.1 6 [some (vR 0), some (vI x1)] [vR 0, vI x1] (sh, I, L) (0, 0) ?_
  refine And.intro (mem1 (sk_0 hs)) ?_
  refine hK.1 9 [some (vR 0), some (vI x1)] [vI (I 0 9), vI x1] (sh, I, L) (0, 0) ?_
  exact And.intro (And.intro n9a n9b) (And.intro (fun h => hK.2 [false, false] _ _ _ _ _ (kt h)) (fun h => hK.2 [true, true] _ _ _ _ _ (kf h)))
set_option maxRecDepth 4000 in
theorem B_X11_planOf_12 {Q : oQ} {K : oK} (hK : oCl tb_X11_planOf Q K) {sh : oS} (hs : Sh sh) {I : Nat → Nat → Int} {L : Nat → Nat → Int64} {x1 : Int} {q17 : Nat} (b17 : 0 ≤ x1 ∧ x1 < 8) (r17 : sR sh 10 (x1.toNat) = some q17) (k : K 22 [none, none] [vR q17] (sh, I, L) (0, 0)) : K 12 [some (vR 0), some (vI x1)] [] (sh, I, L) (0, 0) := by
  refine hK.1 12 [some (vR 0), some (vI x1)] [] (sh, I, L) (0, 0) ?_
  refine hK.1 13 [some (vR 0), some (vI x1)] [vR 0] (sh, I, L) (0, 0) ?_
  refine And.intro (mem1 (sk_0 hs)) (Exists.intro 10 (And.intro (sr_0_4 hs) ?_))
  refine hK.1 16 [some (vR 0), some (vI x1)] [vR 10] (sh, I, L) (0, 0) ?_
  refine hK.1 17 [some (vR 0), some (vI x1)] [vI x1, vR 10] (sh, I, L) (0, 0) ?_
  refine And.intro (And.intro (sk_10 hs) (ixL (sl_10 hs) b17)) (Exists.intro q17 (And.intro r17 ?_))
  refine hK.1 18 [some (vR 0), some (vI x1)] [vR q17] (sh, I, L) (0, 0) ?_
  refine hK.2 [false, false] _ _ _ _ _ ?_
  exact k
set_option maxRecDepth 4000 in
theorem B_X11_planOf_21 {Q : oQ} {K : oK} (hK : oCl tb_X11_planOf Q K) {sh : oS} {I : Nat → Nat → Int} {L : Nat → Nat → Int64}  (k : K 22 [none, none] [vN] (sh, I, L) (0, 0)) : K 21 [none, none] [] (sh, I, L) (0, 0) := by
  refine hK.1 21 [none, none] [] (sh, I, L) (0, 0) ?_
  exact k
set_option maxRecDepth 4000 in
theorem B_X11_planOf_22 {Q : oQ} {K : oK} (hK : oCl tb_X11_planOf Q K) {sh : oS} {I : Nat → Nat → Int} {L : Nat → Nat → Int64} {s0 : Option Nat ⊕ Nat} (k : Q (some (.inr (.inr s0))) (sh, I, L)) : K 22 [none, none] [.inr (.inr s0)] (sh, I, L) (0, 0) := by
  refine hK.1 22 [none, none] [.inr (.inr s0)] (sh, I, L) (0, 0) ?_
  exact And.intro ⟨by decide, by decide⟩ k
set_option maxRecDepth 4000 in
theorem B_X11_marchOf_0 {Q : oQ} {K : oK} (hK : oCl tb_X11_marchOf Q K) {sh : oS} {I : Nat → Nat → Int} {L : Nat → Nat → Int64} {x1 : Int} (n1 : inR x1) (kt : x1 < 0 → K 21 [none, none] [] (sh, I, L) (0, 0)) (kf : ¬ (x1 < 0) → K 4 [some (vR 0), some (vI x1)] [] (sh, I, L) (0, 0)) : K 0 [some (vR 0), some (vI x1)] [] (sh, I, L) (0, 0) := by
  refine hK.1 0 [some (vR 0), some (vI x1)] [] (sh, I, L) (0, 0) ?_
  refine hK.1 1 [some (vR 0), some (vI x1)] [vI x1] (sh, I, L) (0, 0) ?_
  exact And.intro (n1) (And.intro (fun h => hK.2 [false, false] _ _ _ _ _ (kt h)) (fun h => hK.2 [true, true] _ _ _ _ _ (kf h)))
set_option maxRecDepth 4000 in
theorem B_X11_marchOf_4 {Q : oQ} {K : oK} (hK : oCl tb_X11_marchOf Q K) {sh : oS} (hs : Sh sh) {I : Nat → Nat → Int} {L : Nat → Nat → Int64} {x1 : Int} (n9a : inR x1) (n9b : inR (I 0 8)) (kt : I 0 8 ≤ x1 → K 21 [none, none] [] (sh, I, L) (0, 0)) (kf : ¬ (I 0 8 ≤ x1) → K 12 [some (vR 0), some (vI x1)] [] (sh, I, L) (0, 0)) : K 4 [some (vR 0), some (vI x1)] [] (sh, I, L) (0, 0) := by
  refine hK.1 4 [some (vR 0), some (vI x1)] [] (sh, I, L) (0, 0) ?_
  refine hK.1 5 [some (vR 0), some (vI x1)] [vI x1] (sh, I, L) (0, 0) ?_
  refine hK.1 6 [some (vR 0), some (vI x1)] [vR 0, vI x1] (sh, I, L) (0, 0) ?_
  refine And.intro (mem1 (sk_0 hs)) ?_
  refine hK.1 9 [some (vR 0), some (vI x1)] [vI (I 0 8), vI x1] (sh, I, L) (0, 0) ?_
  exact And.intro (And.intro n9a n9b) (And.intro (fun h => hK.2 [false, false] _ _ _ _ _ (kt h)) (fun h => hK.2 [true, true] _ _ _ _ _ (kf h)))
set_option maxRecDepth 4000 in
theorem B_X11_marchOf_12 {Q : oQ} {K : oK} (hK : oCl tb_X11_marchOf Q K) {sh : oS} (hs : Sh sh) {I : Nat → Nat → Int} {L : Nat → Nat → Int64} {x1 : Int} {q17 : Nat} (b17 : 0 ≤ x1 ∧ x1 < 4) (r17 : sR sh 9 (x1.toNat) = some q17) (k : K 22 [none, none] [vR q17] (sh, I, L) (0, 0)) : K 12 [some (vR 0), some (vI x1)] [] (sh, I, L) (0, 0) := by
  refine hK.1 12 [some (vR 0), some (vI x1)] [] (sh, I, L) (0, 0) ?_
  refine hK.1 13 [some (vR 0), some (vI x1)] [vR 0] (sh, I, L) (0, 0) ?_
  refine And.intro (mem1 (sk_0 hs)) (Exists.intro 9 (And.intro (sr_0_3 hs) ?_))
  refine hK.1 16 [some (vR 0), some (vI x1)] [vR 9] (sh, I, L) (0, 0) ?_
  refine hK.1 17 [some (vR 0), some (vI x1)] [vI x1, vR 9] (sh, I, L) (0, 0) ?_
  refine And.intro (And.intro (sk_9 hs) (ixL (sl_9 hs) b17)) (Exists.intro q17 (And.intro r17 ?_))
  refine hK.1 18 [some (vR 0), some (vI x1)] [vR q17] (sh, I, L) (0, 0) ?_
  refine hK.2 [false, false] _ _ _ _ _ ?_
  exact k
set_option maxRecDepth 4000 in
theorem B_X11_marchOf_21 {Q : oQ} {K : oK} (hK : oCl tb_X11_marchOf Q K) {sh : oS} {I : Nat → Nat → Int} {L : Nat → Nat → Int64}  (k : K 22 [none, none] [vN] (sh, I, L) (0, 0)) : K 21 [none, none] [] (sh, I, L) (0, 0) := by
  refine hK.1 21 [none, none] [] (sh, I, L) (0, 0) ?_
  exact k
set_option maxRecDepth 4000 in
theorem B_X11_marchOf_22 {Q : oQ} {K : oK} (hK : oCl tb_X11_marchOf Q K) {sh : oS} {I : Nat → Nat → Int} {L : Nat → Nat → Int64} {s0 : Option Nat ⊕ Nat} (k : Q (some (.inr (.inr s0))) (sh, I, L)) : K 22 [none, none] [.inr (.inr s0)] (sh, I, L) (0, 0) := by
  refine hK.1 22 [none, none] [.inr (.inr s0)] (sh, I, L) (0, 0) ?_
  exact And.intro ⟨by decide, by decide⟩ k
set_option maxRecDepth 4000 in
theorem B_X11_refusal_0 {Q : oQ} {K : oK} (hK : oCl tb_X11_refusal Q K) {sh : oS} (hs : Sh sh) {I : Nat → Nat → Int} {L : Nat → Nat → Int64} {x1 : Int} {x2 : Int} (k : T_X11_planOf [vR 0, vI x1] (sh, I, L) (fun r mm => K 5 [some (vR 0), none, some (vI x2)] (r.toList ++ []) mm (0, 0))) : K 0 [some (vR 0), some (vI x1), some (vI x2)] [] (sh, I, L) (0, 0) := by
  refine hK.1 0 [some (vR 0), some (vI x1), some (vI x2)] [] (sh, I, L) (0, 0) ?_
  refine hK.1 1 [some (vR 0), some (vI x1), some (vI x2)] [vR 0] (sh, I, L) (0, 0) ?_
  refine hK.2 [true, false, true] _ _ _ _ _ ?_
  refine hK.1 2 [some (vR 0), none, some (vI x2)] [vI x1, vR 0] (sh, I, L) (0, 0) ?_
  exact And.intro ⟨(sk_0 hs), Nat.le_of_ble_eq_true rfl, Nat.le_of_ble_eq_true rfl, Nat.le_of_ble_eq_true rfl, Nat.le_of_ble_eq_true rfl⟩ k
set_option maxRecDepth 4000 in
theorem B_X11_refusal_5 {Q : oQ} {K : oK} (hK : oCl tb_X11_refusal Q K) {sh : oS} {I : Nat → Nat → Int} {L : Nat → Nat → Int64} {x2 : Int} {s0 : Nat} (k : K 8 [some (vR 0), none, some (vI x2)] [] (sh, I, L) (0, 0)) : K 5 [some (vR 0), none, some (vI x2)] [vR s0] (sh, I, L) (0, 0) := by
  refine hK.1 5 [some (vR 0), none, some (vI x2)] [vR s0] (sh, I, L) (0, 0) ?_
  exact k
set_option maxRecDepth 4000 in
theorem B_X11_refusal_5n {Q : oQ} {K : oK} (hK : oCl tb_X11_refusal Q K) {sh : oS} {I : Nat → Nat → Int} {L : Nat → Nat → Int64} {x2 : Int} (k : K 16 [none, none, none] [] (sh, I, L) (0, 0)) : K 5 [some (vR 0), none, some (vI x2)] [vN] (sh, I, L) (0, 0) := by
  refine hK.1 5 [some (vR 0), none, some (vI x2)] [vN] (sh, I, L) (0, 0) ?_
  refine hK.2 [false, false, false] _ _ _ _ _ ?_
  exact k
set_option maxRecDepth 4000 in
theorem B_X11_refusal_8 {Q : oQ} {K : oK} (hK : oCl tb_X11_refusal Q K) {sh : oS} (hs : Sh sh) {I : Nat → Nat → Int} {L : Nat → Nat → Int64} {x2 : Int} (k : T_X11_marchOf [vR 0, vI x2] (sh, I, L) (fun r mm => K 13 [some (vR 0), none, none] (r.toList ++ []) mm (0, 0))) : K 8 [some (vR 0), none, some (vI x2)] [] (sh, I, L) (0, 0) := by
  refine hK.1 8 [some (vR 0), none, some (vI x2)] [] (sh, I, L) (0, 0) ?_
  refine hK.1 9 [some (vR 0), none, some (vI x2)] [vR 0] (sh, I, L) (0, 0) ?_
  refine hK.2 [true, false, false] _ _ _ _ _ ?_
  refine hK.1 10 [some (vR 0), none, none] [vI x2, vR 0] (sh, I, L) (0, 0) ?_
  exact And.intro ⟨(sk_0 hs), Nat.le_of_ble_eq_true rfl, Nat.le_of_ble_eq_true rfl, Nat.le_of_ble_eq_true rfl, Nat.le_of_ble_eq_true rfl⟩ k
set_option maxRecDepth 4000 in
theorem B_X11_refusal_13 {Q : oQ} {K : oK} (hK : oCl tb_X11_refusal Q K) {sh : oS} {I : Nat → Nat → Int} {L : Nat → Nat → Int64} {s0 : Nat} (k : K 19 [some (vR 0), none, none] [] (sh, I, L) (0, 0)) : K 13 [some (vR 0), none, none] [vR s0] (sh, I, L) (0, 0) := by
  refine hK.1 13 [some (vR 0), none, none] [vR s0] (sh, I, L) (0, 0) ?_
  exact k
set_option maxRecDepth 4000 in
theorem B_X11_refusal_13n {Q : oQ} {K : oK} (hK : oCl tb_X11_refusal Q K) {sh : oS} {I : Nat → Nat → Int} {L : Nat → Nat → Int64}  (k : K 16 [none, none, none] [] (sh, I, L) (0, 0)) : K 13 [some (vR 0), none, none] [vN] (sh, I, L) (0, 0) := by
  refine hK.1 13 [some (vR 0), none, none] [vN] (sh, I, L) (0, 0) ?_
  refine hK.2 [false, false, false] _ _ _ _ _ ?_
  exact k
set_option maxRecDepth 4000 in
theorem B_X11_refusal_16 {Q : oQ} {K : oK} (hK : oCl tb_X11_refusal Q K) {sh : oS} {I : Nat → Nat → Int} {L : Nat → Nat → Int64}  (k : Q (some (vI (-101))) (sh, I, L)) : K 16 [none, none, none] [] (sh, I, L) (0, 0) := by
  refine hK.1 16 [none, none, none] [] (sh, I, L) (0, 0) ?_
  refine hK.1 18 [none, none, none] [vI (-101)] (sh, I, L) (0, 0) ?_
  exact And.intro ⟨by decide, by decide⟩ k
set_option maxRecDepth 4000 in
theorem B_X11_refusal_19 {Q : oQ} {K : oK} (hK : oCl tb_X11_refusal Q K) {sh : oS} (hs : Sh sh) {I : Nat → Nat → Int} {L : Nat → Nat → Int64}  (n26 : inR (I 3 0)) (kt : ¬ I 3 0 = 0 → K 34 [none, none, none] [] (sh, I, L) (0, 0)) (kf : ¬ (¬ I 3 0 = 0) → K 29 [none, none, none] [] (sh, I, L) (0, 0)) : K 19 [some (vR 0), none, none] [] (sh, I, L) (0, 0) := by
  refine hK.1 19 [some (vR 0), none, none] [] (sh, I, L) (0, 0) ?_
  refine hK.1 20 [some (vR 0), none, none] [vR 0] (sh, I, L) (0, 0) ?_
  refine And.intro (mem1 (sk_0 hs)) (Exists.intro 3 (And.intro (sr_0_1 hs) ?_))
  refine hK.1 23 [some (vR 0), none, none] [vR 3] (sh, I, L) (0, 0) ?_
  refine And.intro (mem1 (sk_3 hs)) ?_
  refine hK.1 26 [some (vR 0), none, none] [vI (I 3 0)] (sh, I, L) (0, 0) ?_
  exact And.intro (n26) (And.intro (fun h => hK.2 [false, false, false] _ _ _ _ _ (kt h)) (fun h => hK.2 [false, false, false] _ _ _ _ _ (kf h)))
set_option maxRecDepth 4000 in
theorem B_X11_refusal_29 {Q : oQ} {K : oK} (hK : oCl tb_X11_refusal Q K) {sh : oS} {I : Nat → Nat → Int} {L : Nat → Nat → Int64}  (k : K 35 [none, none, none] [vI (-103)] (sh, I, L) (0, 0)) : K 29 [none, none, none] [] (sh, I, L) (0, 0) := by
  refine hK.1 29 [none, none, none] [] (sh, I, L) (0, 0) ?_
  refine hK.1 31 [none, none, none] [vI (-103)] (sh, I, L) (0, 0) ?_
  exact k
set_option maxRecDepth 4000 in
theorem B_X11_refusal_34 {Q : oQ} {K : oK} (hK : oCl tb_X11_refusal Q K) {sh : oS} {I : Nat → Nat → Int} {L : Nat → Nat → Int64}  (k : K 35 [none, none, none] [vI 0] (sh, I, L) (0, 0)) : K 34 [none, none, none] [] (sh, I, L) (0, 0) := by
  refine hK.1 34 [none, none, none] [] (sh, I, L) (0, 0) ?_
  exact k
set_option maxRecDepth 4000 in
theorem B_X11_refusal_35 {Q : oQ} {K : oK} (hK : oCl tb_X11_refusal Q K) {sh : oS} {I : Nat → Nat → Int} {L : Nat → Nat → Int64} {s0 : Int} (k : Q (some (vI s0)) (sh, I, L)) : K 35 [none, none, none] [vI s0] (sh, I, L) (0, 0) := by
  refine hK.1 35 [none, none, none] [vI s0] (sh, I, L) (0, 0) ?_
  exact And.intro ⟨by decide, by decide⟩ k
set_option maxRecDepth 4000 in
theorem B_X11_pitch_0 {Q : oQ} {K : oK} (hK : oCl tb_X11_pitch Q K) {sh : oS} (hs : Sh sh) {I : Nat → Nat → Int} {L : Nat → Nat → Int64} {x1 : Int} {x2 : Int} {q5 : Nat} (b5 : 0 ≤ x1 ∧ x1 < 8) (r5 : sR sh 10 (x1.toNat) = some q5) (ky : sK sh q5 ∈ [1] → K 11 [some (vR 0), some (vI x1), some (vI x2), some (vR q5), none, none] [vI 1] (sh, I, L) (0, 0)) (kn : sK sh q5 ∈ [0, 3, 5, 10] → K 11 [some (vR 0), some (vI x1), some (vI x2), some (vR q5), none, none] [vI 0] (sh, I, L) (0, 0)) (kb : sK sh q5 ∈ [0, 1, 3, 5, 10]) : K 0 [some (vR 0), some (vI x1), some (vI x2), none, none, none] [] (sh, I, L) (0, 0) := by
  refine hK.1 0 [some (vR 0), some (vI x1), some (vI x2), none, none, none] [] (sh, I, L) (0, 0) ?_
  refine hK.1 1 [some (vR 0), some (vI x1), some (vI x2), none, none, none] [vR 0] (sh, I, L) (0, 0) ?_
  refine And.intro (mem1 (sk_0 hs)) (Exists.intro 10 (And.intro (sr_0_4 hs) ?_))
  refine hK.1 4 [some (vR 0), some (vI x1), some (vI x2), none, none, none] [vR 10] (sh, I, L) (0, 0) ?_
  refine hK.1 5 [some (vR 0), some (vI x1), some (vI x2), none, none, none] [vI x1, vR 10] (sh, I, L) (0, 0) ?_
  refine And.intro (And.intro (sk_10 hs) (ixL (sl_10 hs) b5)) (Exists.intro q5 (And.intro r5 ?_))
  refine hK.1 6 [some (vR 0), some (vI x1), some (vI x2), none, none, none] [vR q5] (sh, I, L) (0, 0) ?_
  refine hK.1 7 [some (vR 0), some (vI x1), some (vI x2), some (vR q5), none, none] [] (sh, I, L) (0, 0) ?_
  refine hK.1 8 [some (vR 0), some (vI x1), some (vI x2), some (vR q5), none, none] [vR q5] (sh, I, L) (0, 0) ?_
  exact instC kb (fun h => ky h) (fun h => kn h)
set_option maxRecDepth 4000 in
theorem B_X11_pitch_14 {Q : oQ} {K : oK} (hK : oCl tb_X11_pitch Q K) {sh : oS} (hs : Sh sh) {I : Nat → Nat → Int} {L : Nat → Nat → Int64} {x1 : Int} {x2 : Int} {h3 : Nat} (kh3_0 : sK sh h3 = 1) (b33 : 0 ≤ (x1 * 4) + x2 ∧ (x1 * 4) + x2 < 32) (n35a : inR (I 43 (((x1 * 4) + x2).toNat))) (kt : ¬ I 43 (((x1 * 4) + x2).toNat) = (-1) → K 64 [some (vR 0), none, some (vI x2), none, some (vR h3), some (vI ((x1 * 4) + x2))] [] (sh, I, L) (0, 0)) (kf : ¬ (¬ I 43 (((x1 * 4) + x2).toNat) = (-1)) → K 38 [some (vR 0), none, some (vI x2), none, some (vR h3), some (vI ((x1 * 4) + x2))] [] (sh, I, L) (0, 0)) : K 14 [some (vR 0), some (vI x1), some (vI x2), some (vR h3), none, none] [] (sh, I, L) (0, 0) := by
  refine hK.1 14 [some (vR 0), some (vI x1), some (vI x2), some (vR h3), none, none] [] (sh, I, L) (0, 0) ?_
  refine hK.1 15 [some (vR 0), some (vI x1), some (vI x2), some (vR h3), none, none] [vR h3] (sh, I, L) (0, 0) ?_
  refine And.intro (mem1 kh3_0) ?_
  refine hK.1 18 [some (vR 0), some (vI x1), some (vI x2), some (vR h3), none, none] [vR h3] (sh, I, L) (0, 0) ?_
  refine hK.1 20 [some (vR 0), some (vI x1), some (vI x2), some (vR h3), some (vR h3), none] [] (sh, I, L) (0, 0) ?_
  refine hK.1 21 [some (vR 0), some (vI x1), some (vI x2), some (vR h3), some (vR h3), none] [vI x1] (sh, I, L) (0, 0) ?_
  refine hK.1 22 [some (vR 0), some (vI x1), some (vI x2), some (vR h3), some (vR h3), none] [vI 4, vI x1] (sh, I, L) (0, 0) ?_
  refine hK.1 23 [some (vR 0), some (vI x1), some (vI x2), some (vR h3), some (vR h3), none] [vI (x1 * 4)] (sh, I, L) (0, 0) ?_
  refine hK.1 24 [some (vR 0), some (vI x1), some (vI x2), some (vR h3), some (vR h3), none] [vI x2, vI (x1 * 4)] (sh, I, L) (0, 0) ?_
  refine hK.1 25 [some (vR 0), some (vI x1), some (vI x2), some (vR h3), some (vR h3), none] [vI ((x1 * 4) + x2)] (sh, I, L) (0, 0) ?_
  refine hK.1 27 [some (vR 0), some (vI x1), some (vI x2), some (vR h3), some (vR h3), some (vI ((x1 * 4) + x2))] [] (sh, I, L) (0, 0) ?_
  refine hK.1 28 [some (vR 0), some (vI x1), some (vI x2), some (vR h3), some (vR h3), some (vI ((x1 * 4) + x2))] [vR 0] (sh, I, L) (0, 0) ?_
  refine And.intro (mem1 (sk_0 hs)) (Exists.intro 43 (And.intro (sr_0_17 hs) ?_))
  refine hK.1 31 [some (vR 0), some (vI x1), some (vI x2), some (vR h3), some (vR h3), some (vI ((x1 * 4) + x2))] [vR 43] (sh, I, L) (0, 0) ?_
  refine hK.1 33 [some (vR 0), some (vI x1), some (vI x2), some (vR h3), some (vR h3), some (vI ((x1 * 4) + x2))] [vI ((x1 * 4) + x2), vR 43] (sh, I, L) (0, 0) ?_
  refine And.intro (And.intro (sk_43 hs) (ixL (sl_43 hs) b33)) ?_
  refine hK.1 34 [some (vR 0), some (vI x1), some (vI x2), some (vR h3), some (vR h3), some (vI ((x1 * 4) + x2))] [vI (I 43 (((x1 * 4) + x2).toNat))] (sh, I, L) (0, 0) ?_
  refine hK.1 35 [some (vR 0), some (vI x1), some (vI x2), some (vR h3), some (vR h3), some (vI ((x1 * 4) + x2))] [vI (-1), vI (I 43 (((x1 * 4) + x2).toNat))] (sh, I, L) (0, 0) ?_
  exact And.intro (And.intro n35a ⟨by decide, by decide⟩) (And.intro (fun h => hK.2 [true, false, true, false, true, true] _ _ _ _ _ (kt h)) (fun h => hK.2 [true, false, true, false, true, true] _ _ _ _ _ (kf h)))
set_option maxRecDepth 4000 in
theorem B_X11_pitch_38 {Q : oQ} {K : oK} (hK : oCl tb_X11_pitch Q K) {sh : oS} (hs : Sh sh) {I : Nat → Nat → Int} {L : Nat → Nat → Int64} {x2 : Int} {h4 : Nat} {x5 : Int} {q59 : Nat} (b59 : 0 ≤ x2 ∧ x2 < 4) (r59 : sR sh 9 (x2.toNat) = some q59) (k : T_X1_choice [vR h4, vR 24, vR 3, vR q59] (sh, I, L) (fun r mm => K 63 [some (vR 0), none, some (vI x2), none, some (vR h4), some (vI x5)] (r.toList ++ [vI x5, vR 43]) mm (0, 0))) (kh4_1 : sK sh h4 = 1) : K 38 [some (vR 0), none, some (vI x2), none, some (vR h4), some (vI x5)] [] (sh, I, L) (0, 0) := by
  refine hK.1 38 [some (vR 0), none, some (vI x2), none, some (vR h4), some (vI x5)] [] (sh, I, L) (0, 0) ?_
  refine hK.1 39 [some (vR 0), none, some (vI x2), none, some (vR h4), some (vI x5)] [vR 0] (sh, I, L) (0, 0) ?_
  refine And.intro (mem1 (sk_0 hs)) (Exists.intro 43 (And.intro (sr_0_17 hs) ?_))
  refine hK.1 42 [some (vR 0), none, some (vI x2), none, some (vR h4), some (vI x5)] [vR 43] (sh, I, L) (0, 0) ?_
  refine hK.1 44 [some (vR 0), none, some (vI x2), none, some (vR h4), some (vI x5)] [vI x5, vR 43] (sh, I, L) (0, 0) ?_
  refine hK.1 46 [some (vR 0), none, some (vI x2), none, some (vR h4), some (vI x5)] [vR h4, vI x5, vR 43] (sh, I, L) (0, 0) ?_
  refine hK.1 47 [some (vR 0), none, some (vI x2), none, some (vR h4), some (vI x5)] [vR 0, vR h4, vI x5, vR 43] (sh, I, L) (0, 0) ?_
  refine And.intro (mem1 (sk_0 hs)) (Exists.intro 24 (And.intro (sr_0_14 hs) ?_))
  refine hK.1 50 [some (vR 0), none, some (vI x2), none, some (vR h4), some (vI x5)] [vR 24, vR h4, vI x5, vR 43] (sh, I, L) (0, 0) ?_
  refine hK.1 51 [some (vR 0), none, some (vI x2), none, some (vR h4), some (vI x5)] [vR 0, vR 24, vR h4, vI x5, vR 43] (sh, I, L) (0, 0) ?_
  refine And.intro (mem1 (sk_0 hs)) (Exists.intro 3 (And.intro (sr_0_1 hs) ?_))
  refine hK.1 54 [some (vR 0), none, some (vI x2), none, some (vR h4), some (vI x5)] [vR 3, vR 24, vR h4, vI x5, vR 43] (sh, I, L) (0, 0) ?_
  refine hK.1 55 [some (vR 0), none, some (vI x2), none, some (vR h4), some (vI x5)] [vR 0, vR 3, vR 24, vR h4, vI x5, vR 43] (sh, I, L) (0, 0) ?_
  refine And.intro (mem1 (sk_0 hs)) (Exists.intro 9 (And.intro (sr_0_3 hs) ?_))
  refine hK.1 58 [some (vR 0), none, some (vI x2), none, some (vR h4), some (vI x5)] [vR 9, vR 3, vR 24, vR h4, vI x5, vR 43] (sh, I, L) (0, 0) ?_
  refine hK.1 59 [some (vR 0), none, some (vI x2), none, some (vR h4), some (vI x5)] [vI x2, vR 9, vR 3, vR 24, vR h4, vI x5, vR 43] (sh, I, L) (0, 0) ?_
  refine And.intro (And.intro (sk_9 hs) (ixL (sl_9 hs) b59)) (Exists.intro q59 (And.intro r59 ?_))
  refine hK.1 60 [some (vR 0), none, some (vI x2), none, some (vR h4), some (vI x5)] [vR q59, vR 3, vR 24, vR h4, vI x5, vR 43] (sh, I, L) (0, 0) ?_
  exact And.intro ⟨kh4_1, Nat.le_of_ble_eq_true rfl, Nat.le_of_ble_eq_true rfl, Nat.le_of_ble_eq_true rfl, Nat.le_of_ble_eq_true rfl⟩ k
set_option maxRecDepth 4000 in
theorem B_X11_pitch_63 {Q : oQ} {K : oK} (hK : oCl tb_X11_pitch Q K) {sh : oS} (hs : Sh sh) {I : Nat → Nat → Int} {L : Nat → Nat → Int64} {x2 : Int} {h4 : Nat} {x5 : Int} {s1 : Int} {s2 : Int} (b63 : 0 ≤ s1 ∧ s1 < 32) (k : K 64 [some (vR 0), none, some (vI x2), none, some (vR h4), some (vI x5)] [] (sh, (u2 I 43 (s1.toNat) s2), L) (0, 0)) : K 63 [some (vR 0), none, some (vI x2), none, some (vR h4), some (vI x5)] [vI s2, vI s1, vR 43] (sh, I, L) (0, 0) := by
  refine hK.1 63 [some (vR 0), none, some (vI x2), none, some (vR h4), some (vI x5)] [vI s2, vI s1, vR 43] (sh, I, L) (0, 0) ?_
  refine And.intro (And.intro (sk_43 hs) (ixL (sl_43 hs) b63)) ?_
  exact k
set_option maxRecDepth 4000 in
theorem B_X11_pitch_64 {Q : oQ} {K : oK} (hK : oCl tb_X11_pitch Q K) {sh : oS} (hs : Sh sh) {I : Nat → Nat → Int} {L : Nat → Nat → Int64} {x2 : Int} {h4 : Nat} {x5 : Int} {q79 : Nat} (b79 : 0 ≤ x2 ∧ x2 < 4) (r79 : sR sh 9 (x2.toNat) = some q79) (b86 : 0 ≤ x5 ∧ x5 < 32) (k : T_X1_settle [vR h4, vR 24, vR 3, vR q79, vI (I 43 (x5.toNat))] (sh, I, L) (fun r mm => K 90 [none, none, none, none, none, none] (r.toList ++ []) mm (0, 0))) (kh4_2 : sK sh h4 = 1) : K 64 [some (vR 0), none, some (vI x2), none, some (vR h4), some (vI x5)] [] (sh, I, L) (0, 0) := by
  refine hK.1 64 [some (vR 0), none, some (vI x2), none, some (vR h4), some (vI x5)] [] (sh, I, L) (0, 0) ?_
  refine hK.1 66 [some (vR 0), none, some (vI x2), none, some (vR h4), some (vI x5)] [vR h4] (sh, I, L) (0, 0) ?_
  refine hK.1 67 [some (vR 0), none, some (vI x2), none, some (vR h4), some (vI x5)] [vR 0, vR h4] (sh, I, L) (0, 0) ?_
  refine And.intro (mem1 (sk_0 hs)) (Exists.intro 24 (And.intro (sr_0_14 hs) ?_))
  refine hK.1 70 [some (vR 0), none, some (vI x2), none, some (vR h4), some (vI x5)] [vR 24, vR h4] (sh, I, L) (0, 0) ?_
  refine hK.1 71 [some (vR 0), none, some (vI x2), none, some (vR h4), some (vI x5)] [vR 0, vR 24, vR h4] (sh, I, L) (0, 0) ?_
  refine And.intro (mem1 (sk_0 hs)) (Exists.intro 3 (And.intro (sr_0_1 hs) ?_))
  refine hK.1 74 [some (vR 0), none, some (vI x2), none, some (vR h4), some (vI x5)] [vR 3, vR 24, vR h4] (sh, I, L) (0, 0) ?_
  refine hK.1 75 [some (vR 0), none, some (vI x2), none, some (vR h4), some (vI x5)] [vR 0, vR 3, vR 24, vR h4] (sh, I, L) (0, 0) ?_
  refine And.intro (mem1 (sk_0 hs)) (Exists.intro 9 (And.intro (sr_0_3 hs) ?_))
  refine hK.1 78 [some (vR 0), none, some (vI x2), none, some (vR h4), some (vI x5)] [vR 9, vR 3, vR 24, vR h4] (sh, I, L) (0, 0) ?_
  refine hK.1 79 [some (vR 0), none, some (vI x2), none, some (vR h4), some (vI x5)] [vI x2, vR 9, vR 3, vR 24, vR h4] (sh, I, L) (0, 0) ?_
  refine And.intro (And.intro (sk_9 hs) (ixL (sl_9 hs) b79)) (Exists.intro q79 (And.intro r79 ?_))
  refine hK.1 80 [some (vR 0), none, some (vI x2), none, some (vR h4), some (vI x5)] [vR q79, vR 3, vR 24, vR h4] (sh, I, L) (0, 0) ?_
  refine hK.1 81 [some (vR 0), none, some (vI x2), none, some (vR h4), some (vI x5)] [vR 0, vR q79, vR 3, vR 24, vR h4] (sh, I, L) (0, 0) ?_
  refine And.intro (mem1 (sk_0 hs)) (Exists.intro 43 (And.intro (sr_0_17 hs) ?_))
  refine hK.1 84 [some (vR 0), none, some (vI x2), none, some (vR h4), some (vI x5)] [vR 43, vR q79, vR 3, vR 24, vR h4] (sh, I, L) (0, 0) ?_
  refine hK.1 86 [some (vR 0), none, some (vI x2), none, some (vR h4), some (vI x5)] [vI x5, vR 43, vR q79, vR 3, vR 24, vR h4] (sh, I, L) (0, 0) ?_
  refine And.intro (And.intro (sk_43 hs) (ixL (sl_43 hs) b86)) ?_
  refine hK.2 [false, false, false, false, false, false] _ _ _ _ _ ?_
  refine hK.1 87 [none, none, none, none, none, none] [vI (I 43 (x5.toNat)), vR q79, vR 3, vR 24, vR h4] (sh, I, L) (0, 0) ?_
  exact And.intro ⟨kh4_2, Nat.le_of_ble_eq_true rfl, Nat.le_of_ble_eq_true rfl, Nat.le_of_ble_eq_true rfl, Nat.le_of_ble_eq_true rfl⟩ k
set_option maxRecDepth 4000 in
theorem B_X11_pitch_90 {Q : oQ} {K : oK} (hK : oCl tb_X11_pitch Q K) {sh : oS} {I : Nat → Nat → Int} {L : Nat → Nat → Int64}  (k : K 115 [none, none, none, none, none, none] [] (sh, I, L) (0, 0)) : K 90 [none, none, none, none, none, none] [] (sh, I, L) (0, 0) := by
  refine hK.1 90 [none, none, none, none, none, none] [] (sh, I, L) (0, 0) ?_
  exact k
set_option maxRecDepth 4000 in
theorem B_X11_pitch_93 {Q : oQ} {K : oK} (hK : oCl tb_X11_pitch Q K) {sh : oS} (hs : Sh sh) {I : Nat → Nat → Int} {L : Nat → Nat → Int64} {x2 : Int} {h3 : Nat} {q107 : Nat} (b107 : 0 ≤ x2 ∧ x2 < 4) (r107 : sR sh 9 (x2.toNat) = some q107) (kh3_1 : sK sh h3 ∈ [0, 1, 3, 5, 10]) (k0 : sK sh h3 = 0 → T_X0_pitch [vR h3, vR 24, vR 3, vR q107, vI (I h3 0)] (sh, I, L) (fun r mm => K 115 [none, none, none, none, none, none] (r.toList ++ []) mm (0, 0))) (k1 : sK sh h3 = 1 → T_X1_pitch [vR h3, vR 24, vR 3, vR q107, vI (I h3 0)] (sh, I, L) (fun r mm => K 115 [none, none, none, none, none, none] (r.toList ++ []) mm (0, 0))) (k3 : sK sh h3 = 3 → T_X3_pitch [vR h3, vR 24, vR 3, vR q107, vI (I h3 0)] (sh, I, L) (fun r mm => K 115 [none, none, none, none, none, none] (r.toList ++ []) mm (0, 0))) (k5 : sK sh h3 = 5 → T_X3_pitch [vR h3, vR 24, vR 3, vR q107, vI (I h3 0)] (sh, I, L) (fun r mm => K 115 [none, none, none, none, none, none] (r.toList ++ []) mm (0, 0))) (k10 : sK sh h3 = 10 → T_X10_pitch [vR h3, vR 24, vR 3, vR q107, vI (I h3 0)] (sh, I, L) (fun r mm => K 115 [none, none, none, none, none, none] (r.toList ++ []) mm (0, 0))) (kb : sK sh h3 ∈ [0, 1, 3, 5, 10]) : K 93 [some (vR 0), none, some (vI x2), some (vR h3), none, none] [] (sh, I, L) (0, 0) := by
  refine hK.1 93 [some (vR 0), none, some (vI x2), some (vR h3), none, none] [] (sh, I, L) (0, 0) ?_
  refine hK.1 94 [some (vR 0), none, some (vI x2), some (vR h3), none, none] [vR h3] (sh, I, L) (0, 0) ?_
  refine hK.1 95 [some (vR 0), none, some (vI x2), some (vR h3), none, none] [vR 0, vR h3] (sh, I, L) (0, 0) ?_
  refine And.intro (mem1 (sk_0 hs)) (Exists.intro 24 (And.intro (sr_0_14 hs) ?_))
  refine hK.1 98 [some (vR 0), none, some (vI x2), some (vR h3), none, none] [vR 24, vR h3] (sh, I, L) (0, 0) ?_
  refine hK.1 99 [some (vR 0), none, some (vI x2), some (vR h3), none, none] [vR 0, vR 24, vR h3] (sh, I, L) (0, 0) ?_
  refine And.intro (mem1 (sk_0 hs)) (Exists.intro 3 (And.intro (sr_0_1 hs) ?_))
  refine hK.1 102 [some (vR 0), none, some (vI x2), some (vR h3), none, none] [vR 3, vR 24, vR h3] (sh, I, L) (0, 0) ?_
  refine hK.1 103 [some (vR 0), none, some (vI x2), some (vR h3), none, none] [vR 0, vR 3, vR 24, vR h3] (sh, I, L) (0, 0) ?_
  refine And.intro (mem1 (sk_0 hs)) (Exists.intro 9 (And.intro (sr_0_3 hs) ?_))
  refine hK.1 106 [some (vR 0), none, some (vI x2), some (vR h3), none, none] [vR 9, vR 3, vR 24, vR h3] (sh, I, L) (0, 0) ?_
  refine hK.1 107 [some (vR 0), none, some (vI x2), some (vR h3), none, none] [vI x2, vR 9, vR 3, vR 24, vR h3] (sh, I, L) (0, 0) ?_
  refine And.intro (And.intro (sk_9 hs) (ixL (sl_9 hs) b107)) (Exists.intro q107 (And.intro r107 ?_))
  refine hK.1 108 [some (vR 0), none, some (vI x2), some (vR h3), none, none] [vR q107, vR 3, vR 24, vR h3] (sh, I, L) (0, 0) ?_
  refine hK.1 109 [some (vR 0), none, some (vI x2), some (vR h3), none, none] [vR h3, vR q107, vR 3, vR 24, vR h3] (sh, I, L) (0, 0) ?_
  refine And.intro (kh3_1) ?_
  refine hK.2 [false, false, false, false, false, false] _ _ _ _ _ ?_
  refine hK.1 112 [none, none, none, none, none, none] [vI (I h3 0), vR q107, vR 3, vR 24, vR h3] (sh, I, L) (0, 0) ?_
  refine And.intro ⟨Nat.le_of_ble_eq_true rfl, Nat.le_of_ble_eq_true rfl, Nat.le_of_ble_eq_true rfl, Nat.le_of_ble_eq_true rfl⟩ ?_
  simp only [List.mem_cons, List.not_mem_nil, or_false] at kb
  rcases kb with kb | kb | kb | kb | kb
  · exact ⟨(0, T_X0_pitch), List.mem_of_getElem? (i := 0) rfl, kb, k0 kb⟩
  · exact ⟨(1, T_X1_pitch), List.mem_of_getElem? (i := 1) rfl, kb, k1 kb⟩
  · exact ⟨(3, T_X3_pitch), List.mem_of_getElem? (i := 2) rfl, kb, k3 kb⟩
  · exact ⟨(5, T_X3_pitch), List.mem_of_getElem? (i := 3) rfl, kb, k5 kb⟩
  · exact ⟨(10, T_X10_pitch), List.mem_of_getElem? (i := 4) rfl, kb, k10 kb⟩
set_option maxRecDepth 4000 in
theorem B_X11_pitch_115 {Q : oQ} {K : oK} (hK : oCl tb_X11_pitch Q K) {sh : oS} {I : Nat → Nat → Int} {L : Nat → Nat → Int64}  (k : Q none (sh, I, L)) : K 115 [none, none, none, none, none, none] [] (sh, I, L) (0, 0) := by
  refine hK.1 115 [none, none, none, none, none, none] [] (sh, I, L) (0, 0) ?_
  exact And.intro rfl (And.intro ⟨by decide, by decide⟩ k)
set_option maxRecDepth 4000 in
theorem B_X11_ahead_0 {Q : oQ} {K : oK} (hK : oCl tb_X11_ahead Q K) {sh : oS} (hs : Sh sh) {I : Nat → Nat → Int} {L : Nat → Nat → Int64} {x1 : Int} {x2 : Int} (k : T_X11_refusal [vR 0, vI x1, vI x2] (sh, I, L) (fun r mm => K 6 [some (vR 0), some (vI x1), some (vI x2), none, none, none] (r.toList ++ []) mm (0, 0))) : K 0 [some (vR 0), some (vI x1), some (vI x2), none, none, none] [] (sh, I, L) (0, 0) := by
  refine hK.1 0 [some (vR 0), some (vI x1), some (vI x2), none, none, none] [] (sh, I, L) (0, 0) ?_
  refine hK.1 1 [some (vR 0), some (vI x1), some (vI x2), none, none, none] [vR 0] (sh, I, L) (0, 0) ?_
  refine hK.1 2 [some (vR 0), some (vI x1), some (vI x2), none, none, none] [vI x1, vR 0] (sh, I, L) (0, 0) ?_
  refine hK.1 3 [some (vR 0), some (vI x1), some (vI x2), none, none, none] [vI x2, vI x1, vR 0] (sh, I, L) (0, 0) ?_
  exact And.intro ⟨(sk_0 hs), Nat.le_of_ble_eq_true rfl, Nat.le_of_ble_eq_true rfl, Nat.le_of_ble_eq_true rfl, Nat.le_of_ble_eq_true rfl⟩ k
set_option maxRecDepth 4000 in
theorem B_X11_ahead_6 {Q : oQ} {K : oK} (hK : oCl tb_X11_ahead Q K) {sh : oS} {I : Nat → Nat → Int} {L : Nat → Nat → Int64} {x1 : Int} {x2 : Int} {s0 : Int} (n8 : inR s0) (kt : s0 = 0 → K 13 [some (vR 0), some (vI x1), some (vI x2), none, none, none] [] (sh, I, L) (0, 0)) (kf : ¬ (s0 = 0) → K 11 [none, none, none, some (vI s0), none, none] [] (sh, I, L) (0, 0)) : K 6 [some (vR 0), some (vI x1), some (vI x2), none, none, none] [vI s0] (sh, I, L) (0, 0) := by
  refine hK.1 6 [some (vR 0), some (vI x1), some (vI x2), none, none, none] [vI s0] (sh, I, L) (0, 0) ?_
  refine hK.1 7 [some (vR 0), some (vI x1), some (vI x2), some (vI s0), none, none] [] (sh, I, L) (0, 0) ?_
  refine hK.1 8 [some (vR 0), some (vI x1), some (vI x2), some (vI s0), none, none] [vI s0] (sh, I, L) (0, 0) ?_
  exact And.intro (n8) (And.intro (fun h => hK.2 [true, true, true, false, false, false] _ _ _ _ _ (kt h)) (fun h => hK.2 [false, false, false, true, false, false] _ _ _ _ _ (kf h)))
set_option maxRecDepth 4000 in
theorem B_X11_ahead_11 {Q : oQ} {K : oK} (hK : oCl tb_X11_ahead Q K) {sh : oS} {I : Nat → Nat → Int} {L : Nat → Nat → Int64} {x3 : Int} (k : Q (some (vI x3)) (sh, I, L)) : K 11 [none, none, none, some (vI x3), none, none] [] (sh, I, L) (0, 0) := by
  refine hK.1 11 [none, none, none, some (vI x3), none, none] [] (sh, I, L) (0, 0) ?_
  refine hK.1 12 [none, none, none, some (vI x3), none, none] [vI x3] (sh, I, L) (0, 0) ?_
  exact And.intro ⟨by decide, by decide⟩ k
set_option maxRecDepth 4000 in
theorem B_X11_ahead_13 {Q : oQ} {K : oK} (hK : oCl tb_X11_ahead Q K) {sh : oS} (hs : Sh sh) {I : Nat → Nat → Int} {L : Nat → Nat → Int64} {x1 : Int} {x2 : Int} (n19a : inR (I 0 11)) (kt : I 0 11 < 30 → K 25 [some (vR 0), some (vI x1), some (vI x2), none, none, none] [] (sh, I, L) (0, 0)) (kf : ¬ (I 0 11 < 30) → K 22 [none, none, none, none, none, none] [] (sh, I, L) (0, 0)) : K 13 [some (vR 0), some (vI x1), some (vI x2), none, none, none] [] (sh, I, L) (0, 0) := by
  refine hK.1 13 [some (vR 0), some (vI x1), some (vI x2), none, none, none] [] (sh, I, L) (0, 0) ?_
  refine hK.1 14 [some (vR 0), some (vI x1), some (vI x2), none, none, none] [vR 0] (sh, I, L) (0, 0) ?_
  refine And.intro (mem1 (sk_0 hs)) ?_
  refine hK.1 17 [some (vR 0), some (vI x1), some (vI x2), none, none, none] [vI (I 0 11)] (sh, I, L) (0, 0) ?_
  refine hK.1 19 [some (vR 0), some (vI x1), some (vI x2), none, none, none] [vI 30, vI (I 0 11)] (sh, I, L) (0, 0) ?_
  exact And.intro (And.intro n19a ⟨by decide, by decide⟩) (And.intro (fun h => hK.2 [true, true, true, false, false, false] _ _ _ _ _ (kt h)) (fun h => hK.2 [false, false, false, false, false, false] _ _ _ _ _ (kf h)))
set_option maxRecDepth 4000 in
theorem B_X11_ahead_22 {Q : oQ} {K : oK} (hK : oCl tb_X11_ahead Q K) {sh : oS} {I : Nat → Nat → Int} {L : Nat → Nat → Int64}  (k : Q (some (vI (-103))) (sh, I, L)) : K 22 [none, none, none, none, none, none] [] (sh, I, L) (0, 0) := by
  refine hK.1 22 [none, none, none, none, none, none] [] (sh, I, L) (0, 0) ?_
  refine hK.1 24 [none, none, none, none, none, none] [vI (-103)] (sh, I, L) (0, 0) ?_
  exact And.intro ⟨by decide, by decide⟩ k
set_option maxRecDepth 4000 in
theorem B_X11_ahead_25 {Q : oQ} {K : oK} (hK : oCl tb_X11_ahead Q K) {sh : oS} (hs : Sh sh) {I : Nat → Nat → Int} {L : Nat → Nat → Int64} {x1 : Int} {x2 : Int} {q40 : Nat} (b40 : 0 ≤ x2 ∧ x2 < 4) (r40 : sR sh 9 (x2.toNat) = some q40) (k : T_X11_pitch [vR 0, vI x1, vI x2] (sh, (u2 I 0 11 ((I 0 11) + 1)), L) (fun r mm => K 49 [some (vR 0), none, none, none, some (vR q40), none] (r.toList ++ []) mm (0, 0))) : K 25 [some (vR 0), some (vI x1), some (vI x2), none, none, none] [] (sh, I, L) (0, 0) := by
  refine hK.1 25 [some (vR 0), some (vI x1), some (vI x2), none, none, none] [] (sh, I, L) (0, 0) ?_
  refine hK.1 26 [some (vR 0), some (vI x1), some (vI x2), none, none, none] [vR 0] (sh, I, L) (0, 0) ?_
  refine hK.1 27 [some (vR 0), some (vI x1), some (vI x2), none, none, none] [vR 0, vR 0] (sh, I, L) (0, 0) ?_
  refine And.intro (mem1 (sk_0 hs)) ?_
  refine hK.1 30 [some (vR 0), some (vI x1), some (vI x2), none, none, none] [vI (I 0 11), vR 0] (sh, I, L) (0, 0) ?_
  refine hK.1 31 [some (vR 0), some (vI x1), some (vI x2), none, none, none] [vI 1, vI (I 0 11), vR 0] (sh, I, L) (0, 0) ?_
  refine hK.1 32 [some (vR 0), some (vI x1), some (vI x2), none, none, none] [vI ((I 0 11) + 1), vR 0] (sh, I, L) (0, 0) ?_
  refine And.intro (mem1 (sk_0 hs)) ?_
  refine hK.1 35 [some (vR 0), some (vI x1), some (vI x2), none, none, none] [] (sh, (u2 I 0 11 ((I 0 11) + 1)), L) (0, 0) ?_
  refine hK.1 36 [some (vR 0), some (vI x1), some (vI x2), none, none, none] [vR 0] (sh, (u2 I 0 11 ((I 0 11) + 1)), L) (0, 0) ?_
  refine And.intro (mem1 (sk_0 hs)) (Exists.intro 9 (And.intro (sr_0_3 hs) ?_))
  refine hK.1 39 [some (vR 0), some (vI x1), some (vI x2), none, none, none] [vR 9] (sh, (u2 I 0 11 ((I 0 11) + 1)), L) (0, 0) ?_
  refine hK.1 40 [some (vR 0), some (vI x1), some (vI x2), none, none, none] [vI x2, vR 9] (sh, (u2 I 0 11 ((I 0 11) + 1)), L) (0, 0) ?_
  refine And.intro (And.intro (sk_9 hs) (ixL (sl_9 hs) b40)) (Exists.intro q40 (And.intro r40 ?_))
  refine hK.1 41 [some (vR 0), some (vI x1), some (vI x2), none, none, none] [vR q40] (sh, (u2 I 0 11 ((I 0 11) + 1)), L) (0, 0) ?_
  refine hK.1 43 [some (vR 0), some (vI x1), some (vI x2), none, some (vR q40), none] [] (sh, (u2 I 0 11 ((I 0 11) + 1)), L) (0, 0) ?_
  refine hK.1 44 [some (vR 0), some (vI x1), some (vI x2), none, some (vR q40), none] [vR 0] (sh, (u2 I 0 11 ((I 0 11) + 1)), L) (0, 0) ?_
  refine hK.1 45 [some (vR 0), some (vI x1), some (vI x2), none, some (vR q40), none] [vI x1, vR 0] (sh, (u2 I 0 11 ((I 0 11) + 1)), L) (0, 0) ?_
  refine hK.2 [true, false, false, false, true, false] _ _ _ _ _ ?_
  refine hK.1 46 [some (vR 0), none, none, none, some (vR q40), none] [vI x2, vI x1, vR 0] (sh, (u2 I 0 11 ((I 0 11) + 1)), L) (0, 0) ?_
  exact And.intro ⟨(sk_0 hs), Nat.le_of_ble_eq_true rfl, Nat.le_of_ble_eq_true rfl, Nat.le_of_ble_eq_true rfl, Nat.le_of_ble_eq_true rfl⟩ k
set_option maxRecDepth 4000 in
theorem B_X11_ahead_49 {Q : oQ} {K : oK} (hK : oCl tb_X11_ahead Q K) {sh : oS} {I : Nat → Nat → Int} {L : Nat → Nat → Int64} {h4 : Nat} (k : K 52 [some (vR 0), none, none, none, some (vR h4), some (vI 0)] [] (sh, I, L) (0, 0)) : K 49 [some (vR 0), none, none, none, some (vR h4), none] [] (sh, I, L) (0, 0) := by
  refine hK.1 49 [some (vR 0), none, none, none, some (vR h4), none] [] (sh, I, L) (0, 0) ?_
  refine hK.1 50 [some (vR 0), none, none, none, some (vR h4), none] [vI 0] (sh, I, L) (0, 0) ?_
  exact k
set_option maxRecDepth 4000 in
theorem B_X11_ahead_52 {Q : oQ} {K : oK} (hK : oCl tb_X11_ahead Q K) {sh : oS} {I : Nat → Nat → Int} {L : Nat → Nat → Int64} {h4 : Nat} {x5 : Int} (n56a : inR x5) (kt : 9 < x5 → K 98 [none, none, none, none, none, none] [] (sh, I, L) (0, 0)) (kf : ¬ (9 < x5) → K 59 [some (vR 0), none, none, none, some (vR h4), some (vI x5)] [] (sh, I, L) (0, 0)) : K 52 [some (vR 0), none, none, none, some (vR h4), some (vI x5)] [] (sh, I, L) (0, 0) := by
  refine hK.1 52 [some (vR 0), none, none, none, some (vR h4), some (vI x5)] [] (sh, I, L) (0, 0) ?_
  refine hK.1 54 [some (vR 0), none, none, none, some (vR h4), some (vI x5)] [vI x5] (sh, I, L) (0, 0) ?_
  refine hK.1 56 [some (vR 0), none, none, none, some (vR h4), some (vI x5)] [vI 9, vI x5] (sh, I, L) (0, 0) ?_
  exact And.intro (And.intro n56a ⟨by decide, by decide⟩) (And.intro (fun h => hK.2 [false, false, false, false, false, false] _ _ _ _ _ (kt h)) (fun h => hK.2 [true, false, false, false, true, true] _ _ _ _ _ (kf h)))
set_option maxRecDepth 4000 in
theorem B_X11_ahead_59 {Q : oQ} {K : oK} (hK : oCl tb_X11_ahead Q K) {sh : oS} (hs : Sh sh) {I : Nat → Nat → Int} {L : Nat → Nat → Int64} {h4 : Nat} {x5 : Int} {h4e h4p h4t : Nat} (k : T_X6_wayOn [vR h4] (sh, I, L) (fun r mm => K 74 [some (vR 0), none, none, none, some (vR h4), some (vI x5)] (r.toList ++ [vR h4, vR 3, vR 24]) mm (0, 0))) (Ah4 : MarchAt sh h4 h4e h4p h4t) : K 59 [some (vR 0), none, none, none, some (vR h4), some (vI x5)] [] (sh, I, L) (0, 0) := by
  refine hK.1 59 [some (vR 0), none, none, none, some (vR h4), some (vI x5)] [] (sh, I, L) (0, 0) ?_
  refine hK.1 60 [some (vR 0), none, none, none, some (vR h4), some (vI x5)] [vR 0] (sh, I, L) (0, 0) ?_
  refine And.intro (mem1 (sk_0 hs)) (Exists.intro 24 (And.intro (sr_0_14 hs) ?_))
  refine hK.1 63 [some (vR 0), none, none, none, some (vR h4), some (vI x5)] [vR 24] (sh, I, L) (0, 0) ?_
  refine hK.1 64 [some (vR 0), none, none, none, some (vR h4), some (vI x5)] [vR 0, vR 24] (sh, I, L) (0, 0) ?_
  refine And.intro (mem1 (sk_0 hs)) (Exists.intro 3 (And.intro (sr_0_1 hs) ?_))
  refine hK.1 67 [some (vR 0), none, none, none, some (vR h4), some (vI x5)] [vR 3, vR 24] (sh, I, L) (0, 0) ?_
  refine hK.1 69 [some (vR 0), none, none, none, some (vR h4), some (vI x5)] [vR h4, vR 3, vR 24] (sh, I, L) (0, 0) ?_
  refine hK.1 71 [some (vR 0), none, none, none, some (vR h4), some (vI x5)] [vR h4, vR h4, vR 3, vR 24] (sh, I, L) (0, 0) ?_
  exact And.intro ⟨Ah4.1, Nat.le_of_ble_eq_true rfl, Nat.le_of_ble_eq_true rfl, Nat.le_of_ble_eq_true rfl, Nat.le_of_ble_eq_true rfl⟩ k
set_option maxRecDepth 4000 in
theorem B_X11_ahead_74 {Q : oQ} {K : oK} (hK : oCl tb_X11_ahead Q K) {sh : oS} (hs : Sh sh) {I : Nat → Nat → Int} {L : Nat → Nat → Int64} {h4 : Nat} {x5 : Int} {s2 : Nat} {s3 : Int} (k : T_X2_feed [vR 24, vR 3, vR s2, vI s3, vI x5] (sh, I, L) (fun r mm => K 79 [some (vR 0), none, none, none, some (vR h4), some (vI x5)] (r.toList ++ []) mm (0, 0))) : K 74 [some (vR 0), none, none, none, some (vR h4), some (vI x5)] [vI s3, vR s2, vR 3, vR 24] (sh, I, L) (0, 0) := by
  refine hK.1 74 [some (vR 0), none, none, none, some (vR h4), some (vI x5)] [vI s3, vR s2, vR 3, vR 24] (sh, I, L) (0, 0) ?_
  refine hK.1 76 [some (vR 0), none, none, none, some (vR h4), some (vI x5)] [vI x5, vI s3, vR s2, vR 3, vR 24] (sh, I, L) (0, 0) ?_
  exact And.intro ⟨(sk_24 hs), Nat.le_of_ble_eq_true rfl, Nat.le_of_ble_eq_true rfl, Nat.le_of_ble_eq_true rfl, Nat.le_of_ble_eq_true rfl⟩ k
set_option maxRecDepth 4000 in
theorem B_X11_ahead_79 {Q : oQ} {K : oK} (hK : oCl tb_X11_ahead Q K) {sh : oS} (hs : Sh sh) {I : Nat → Nat → Int} {L : Nat → Nat → Int64} {h4 : Nat} {x5 : Int} (n86 : inR (I 24 4)) (kt : ¬ I 24 4 = 0 → K 92 [some (vR 0), none, none, none, some (vR h4), some (vI x5)] [] (sh, I, L) (0, 0)) (kf : ¬ (¬ I 24 4 = 0) → K 89 [none, none, none, none, none, some (vI x5)] [] (sh, I, L) (0, 0)) : K 79 [some (vR 0), none, none, none, some (vR h4), some (vI x5)] [] (sh, I, L) (0, 0) := by
  refine hK.1 79 [some (vR 0), none, none, none, some (vR h4), some (vI x5)] [] (sh, I, L) (0, 0) ?_
  refine hK.1 80 [some (vR 0), none, none, none, some (vR h4), some (vI x5)] [vR 0] (sh, I, L) (0, 0) ?_
  refine And.intro (mem1 (sk_0 hs)) (Exists.intro 24 (And.intro (sr_0_14 hs) ?_))
  refine hK.1 83 [some (vR 0), none, none, none, some (vR h4), some (vI x5)] [vR 24] (sh, I, L) (0, 0) ?_
  refine And.intro (mem1 (sk_24 hs)) ?_
  refine hK.1 86 [some (vR 0), none, none, none, some (vR h4), some (vI x5)] [vI (I 24 4)] (sh, I, L) (0, 0) ?_
  exact And.intro (n86) (And.intro (fun h => hK.2 [true, false, false, false, true, true] _ _ _ _ _ (kt h)) (fun h => hK.2 [false, false, false, false, false, true] _ _ _ _ _ (kf h)))
set_option maxRecDepth 4000 in
theorem B_X11_ahead_89 {Q : oQ} {K : oK} (hK : oCl tb_X11_ahead Q K) {sh : oS} {I : Nat → Nat → Int} {L : Nat → Nat → Int64} {x5 : Int} (k : Q (some (vI x5)) (sh, I, L)) : K 89 [none, none, none, none, none, some (vI x5)] [] (sh, I, L) (0, 0) := by
  refine hK.1 89 [none, none, none, none, none, some (vI x5)] [] (sh, I, L) (0, 0) ?_
  refine hK.1 91 [none, none, none, none, none, some (vI x5)] [vI x5] (sh, I, L) (0, 0) ?_
  exact And.intro ⟨by decide, by decide⟩ k
set_option maxRecDepth 4000 in
theorem B_X11_ahead_92 {Q : oQ} {K : oK} (hK : oCl tb_X11_ahead Q K) {sh : oS} {I : Nat → Nat → Int} {L : Nat → Nat → Int64} {h4 : Nat} {x5 : Int} (k : K 52 [some (vR 0), none, none, none, some (vR h4), some (vI (x5 + 1))] [] (sh, I, L) (0, 0)) : K 92 [some (vR 0), none, none, none, some (vR h4), some (vI x5)] [] (sh, I, L) (0, 0) := by
  refine hK.1 92 [some (vR 0), none, none, none, some (vR h4), some (vI x5)] [] (sh, I, L) (0, 0) ?_
  refine hK.1 95 [some (vR 0), none, none, none, some (vR h4), some (vI (x5 + 1))] [] (sh, I, L) (0, 0) ?_
  exact k
set_option maxRecDepth 4000 in
theorem B_X11_ahead_98 {Q : oQ} {K : oK} (hK : oCl tb_X11_ahead Q K) {sh : oS} {I : Nat → Nat → Int} {L : Nat → Nat → Int64}  (k : Q (some (vI (-1))) (sh, I, L)) : K 98 [none, none, none, none, none, none] [] (sh, I, L) (0, 0) := by
  refine hK.1 98 [none, none, none, none, none, none] [] (sh, I, L) (0, 0) ?_
  refine hK.1 99 [none, none, none, none, none, none] [vI (-1)] (sh, I, L) (0, 0) ?_
  exact And.intro ⟨by decide, by decide⟩ k
set_option maxRecDepth 4000 in
theorem B_X11_as_0 {Q : oQ} {K : oK} (hK : oCl tb_X11_as Q K) {sh : oS} (hs : Sh sh) {I : Nat → Nat → Int} {L : Nat → Nat → Int64} {x1 : Int} {x2 : Int} (k : T_X11_planOf [vR 0, vI x1] (sh, I, L) (fun r mm => K 5 [none, some (vI x1), some (vI x2), none] (r.toList ++ []) mm (0, 0))) : K 0 [some (vR 0), some (vI x1), some (vI x2), none] [] (sh, I, L) (0, 0) := by
  refine hK.1 0 [some (vR 0), some (vI x1), some (vI x2), none] [] (sh, I, L) (0, 0) ?_
  refine hK.1 1 [some (vR 0), some (vI x1), some (vI x2), none] [vR 0] (sh, I, L) (0, 0) ?_
  refine hK.2 [false, true, true, false] _ _ _ _ _ ?_
  refine hK.1 2 [none, some (vI x1), some (vI x2), none] [vI x1, vR 0] (sh, I, L) (0, 0) ?_
  exact And.intro ⟨(sk_0 hs), Nat.le_of_ble_eq_true rfl, Nat.le_of_ble_eq_true rfl, Nat.le_of_ble_eq_true rfl, Nat.le_of_ble_eq_true rfl⟩ k
set_option maxRecDepth 4000 in
theorem B_X11_as_5 {Q : oQ} {K : oK} (hK : oCl tb_X11_as Q K) {sh : oS} {I : Nat → Nat → Int} {L : Nat → Nat → Int64} {x1 : Int} {x2 : Int} {s0 : Nat} (k : K 13 [none, some (vI x1), some (vI x2), some (vR s0)] [] (sh, I, L) (0, 0)) : K 5 [none, some (vI x1), some (vI x2), none] [vR s0] (sh, I, L) (0, 0) := by
  refine hK.1 5 [none, some (vI x1), some (vI x2), none] [vR s0] (sh, I, L) (0, 0) ?_
  refine hK.1 6 [none, some (vI x1), some (vI x2), some (vR s0)] [] (sh, I, L) (0, 0) ?_
  refine hK.1 7 [none, some (vI x1), some (vI x2), some (vR s0)] [vR s0] (sh, I, L) (0, 0) ?_
  exact k
set_option maxRecDepth 4000 in
theorem B_X11_as_5n {Q : oQ} {K : oK} (hK : oCl tb_X11_as Q K) {sh : oS} {I : Nat → Nat → Int} {L : Nat → Nat → Int64} {x1 : Int} {x2 : Int} (k : K 10 [none, none, none, none] [] (sh, I, L) (0, 0)) : K 5 [none, some (vI x1), some (vI x2), none] [vN] (sh, I, L) (0, 0) := by
  refine hK.1 5 [none, some (vI x1), some (vI x2), none] [vN] (sh, I, L) (0, 0) ?_
  refine hK.1 6 [none, some (vI x1), some (vI x2), some vN] [] (sh, I, L) (0, 0) ?_
  refine hK.1 7 [none, some (vI x1), some (vI x2), some vN] [vN] (sh, I, L) (0, 0) ?_
  refine hK.2 [false, false, false, false] _ _ _ _ _ ?_
  exact k
set_option maxRecDepth 4000 in
theorem B_X11_as_10 {Q : oQ} {K : oK} (hK : oCl tb_X11_as Q K) {sh : oS} {I : Nat → Nat → Int} {L : Nat → Nat → Int64}  (k : Q (some (vI (-101))) (sh, I, L)) : K 10 [none, none, none, none] [] (sh, I, L) (0, 0) := by
  refine hK.1 10 [none, none, none, none] [] (sh, I, L) (0, 0) ?_
  refine hK.1 12 [none, none, none, none] [vI (-101)] (sh, I, L) (0, 0) ?_
  exact And.intro ⟨by decide, by decide⟩ k
set_option maxRecDepth 4000 in
theorem B_X11_as_13 {Q : oQ} {K : oK} (hK : oCl tb_X11_as Q K) {sh : oS} {I : Nat → Nat → Int} {L : Nat → Nat → Int64} {x1 : Int} {x2 : Int} {h3 : Nat} (k : K (swT 0 [48, 50, 63, 76, 89] 102 x2) [none, some (vI x1), none, some (vR h3)] [] (sh, I, L) (0, 0)) (n14 : inR x2) : K 13 [none, some (vI x1), some (vI x2), some (vR h3)] [] (sh, I, L) (0, 0) := by
  refine hK.1 13 [none, some (vI x1), some (vI x2), some (vR h3)] [] (sh, I, L) (0, 0) ?_
  refine hK.1 14 [none, some (vI x1), some (vI x2), some (vR h3)] [vI x2] (sh, I, L) (0, 0) ?_
  exact And.intro n14 (hK.2 [false, true, false, true] _ _ _ _ _ k)
set_option maxRecDepth 4000 in
theorem B_X11_as_13n {Q : oQ} {K : oK} (hK : oCl tb_X11_as Q K) {sh : oS} {I : Nat → Nat → Int} {L : Nat → Nat → Int64} {x1 : Int} {x2 : Int} (k : K (swT 0 [48, 50, 63, 76, 89] 102 x2) [none, some (vI x1), none, some vN] [] (sh, I, L) (0, 0)) (n14 : inR x2) : K 13 [none, some (vI x1), some (vI x2), some vN] [] (sh, I, L) (0, 0) := by
  refine hK.1 13 [none, some (vI x1), some (vI x2), some vN] [] (sh, I, L) (0, 0) ?_
  refine hK.1 14 [none, some (vI x1), some (vI x2), some vN] [vI x2] (sh, I, L) (0, 0) ?_
  exact And.intro n14 (hK.2 [false, true, false, true] _ _ _ _ _ k)
set_option maxRecDepth 4000 in
theorem B_X11_as_48 {Q : oQ} {K : oK} (hK : oCl tb_X11_as Q K) {sh : oS} {I : Nat → Nat → Int} {L : Nat → Nat → Int64} {x1 : Int} (k : Q (some (vI x1)) (sh, I, L)) : K 48 [none, some (vI x1), none, none] [] (sh, I, L) (0, 0) := by
  refine hK.1 48 [none, some (vI x1), none, none] [] (sh, I, L) (0, 0) ?_
  refine hK.1 49 [none, some (vI x1), none, none] [vI x1] (sh, I, L) (0, 0) ?_
  exact And.intro ⟨by decide, by decide⟩ k
set_option maxRecDepth 4000 in
theorem B_X11_as_50 {Q : oQ} {K : oK} (hK : oCl tb_X11_as Q K) {sh : oS} {I : Nat → Nat → Int} {L : Nat → Nat → Int64} {x1 : Int} {h3 : Nat} (ky : sK sh h3 ∈ [3, 5] → K 54 [none, some (vI x1), none, none] [vI 1] (sh, I, L) (0, 0)) (kn : sK sh h3 ∈ [0, 1, 10] → K 54 [none, some (vI x1), none, none] [vI 0] (sh, I, L) (0, 0)) (kb : sK sh h3 ∈ [0, 1, 3, 5, 10]) : K 50 [none, some (vI x1), none, some (vR h3)] [] (sh, I, L) (0, 0) := by
  refine hK.1 50 [none, some (vI x1), none, some (vR h3)] [] (sh, I, L) (0, 0) ?_
  refine hK.2 [false, true, false, false] _ _ _ _ _ ?_
  refine hK.1 51 [none, some (vI x1), none, none] [vR h3] (sh, I, L) (0, 0) ?_
  exact instC kb (fun h => ky h) (fun h => kn h)
set_option maxRecDepth 4000 in
theorem B_X11_as_57 {Q : oQ} {K : oK} (hK : oCl tb_X11_as Q K) {sh : oS} {I : Nat → Nat → Int} {L : Nat → Nat → Int64} {x1 : Int} (k : K 62 [none, none, none, none] [vI x1] (sh, I, L) (0, 0)) : K 57 [none, some (vI x1), none, none] [] (sh, I, L) (0, 0) := by
  refine hK.1 57 [none, some (vI x1), none, none] [] (sh, I, L) (0, 0) ?_
  refine hK.1 58 [none, some (vI x1), none, none] [vI x1] (sh, I, L) (0, 0) ?_
  refine hK.2 [false, false, false, false] _ _ _ _ _ ?_
  exact k
set_option maxRecDepth 4000 in
theorem B_X11_as_61 {Q : oQ} {K : oK} (hK : oCl tb_X11_as Q K) {sh : oS} {I : Nat → Nat → Int} {L : Nat → Nat → Int64}  (k : K 62 [none, none, none, none] [vI (-1)] (sh, I, L) (0, 0)) : K 61 [none, none, none, none] [] (sh, I, L) (0, 0) := by
  refine hK.1 61 [none, none, none, none] [] (sh, I, L) (0, 0) ?_
  exact k
set_option maxRecDepth 4000 in
theorem B_X11_as_62 {Q : oQ} {K : oK} (hK : oCl tb_X11_as Q K) {sh : oS} {I : Nat → Nat → Int} {L : Nat → Nat → Int64} {s0 : Int} (k : Q (some (vI s0)) (sh, I, L)) : K 62 [none, none, none, none] [vI s0] (sh, I, L) (0, 0) := by
  refine hK.1 62 [none, none, none, none] [vI s0] (sh, I, L) (0, 0) ?_
  exact And.intro ⟨by decide, by decide⟩ k
set_option maxRecDepth 4000 in
theorem B_X11_as_63 {Q : oQ} {K : oK} (hK : oCl tb_X11_as Q K) {sh : oS} {I : Nat → Nat → Int} {L : Nat → Nat → Int64} {x1 : Int} {h3 : Nat} (ky : sK sh h3 ∈ [5] → K 67 [none, some (vI x1), none, none] [vI 1] (sh, I, L) (0, 0)) (kn : sK sh h3 ∈ [0, 1, 3, 10] → K 67 [none, some (vI x1), none, none] [vI 0] (sh, I, L) (0, 0)) (kb : sK sh h3 ∈ [0, 1, 3, 5, 10]) : K 63 [none, some (vI x1), none, some (vR h3)] [] (sh, I, L) (0, 0) := by
  refine hK.1 63 [none, some (vI x1), none, some (vR h3)] [] (sh, I, L) (0, 0) ?_
  refine hK.2 [false, true, false, false] _ _ _ _ _ ?_
  refine hK.1 64 [none, some (vI x1), none, none] [vR h3] (sh, I, L) (0, 0) ?_
  exact instC kb (fun h => ky h) (fun h => kn h)
set_option maxRecDepth 4000 in
theorem B_X11_as_70 {Q : oQ} {K : oK} (hK : oCl tb_X11_as Q K) {sh : oS} {I : Nat → Nat → Int} {L : Nat → Nat → Int64} {x1 : Int} (k : K 75 [none, none, none, none] [vI x1] (sh, I, L) (0, 0)) : K 70 [none, some (vI x1), none, none] [] (sh, I, L) (0, 0) := by
  refine hK.1 70 [none, some (vI x1), none, none] [] (sh, I, L) (0, 0) ?_
  refine hK.1 71 [none, some (vI x1), none, none] [vI x1] (sh, I, L) (0, 0) ?_
  refine hK.2 [false, false, false, false] _ _ _ _ _ ?_
  exact k
set_option maxRecDepth 4000 in
theorem B_X11_as_74 {Q : oQ} {K : oK} (hK : oCl tb_X11_as Q K) {sh : oS} {I : Nat → Nat → Int} {L : Nat → Nat → Int64}  (k : K 75 [none, none, none, none] [vI (-1)] (sh, I, L) (0, 0)) : K 74 [none, none, none, none] [] (sh, I, L) (0, 0) := by
  refine hK.1 74 [none, none, none, none] [] (sh, I, L) (0, 0) ?_
  exact k
set_option maxRecDepth 4000 in
theorem B_X11_as_75 {Q : oQ} {K : oK} (hK : oCl tb_X11_as Q K) {sh : oS} {I : Nat → Nat → Int} {L : Nat → Nat → Int64} {s0 : Int} (k : Q (some (vI s0)) (sh, I, L)) : K 75 [none, none, none, none] [vI s0] (sh, I, L) (0, 0) := by
  refine hK.1 75 [none, none, none, none] [vI s0] (sh, I, L) (0, 0) ?_
  exact And.intro ⟨by decide, by decide⟩ k
set_option maxRecDepth 4000 in
theorem B_X11_as_76 {Q : oQ} {K : oK} (hK : oCl tb_X11_as Q K) {sh : oS} {I : Nat → Nat → Int} {L : Nat → Nat → Int64} {x1 : Int} {h3 : Nat} (ky : sK sh h3 ∈ [1] → K 80 [none, some (vI x1), none, none] [vI 1] (sh, I, L) (0, 0)) (kn : sK sh h3 ∈ [0, 3, 5, 10] → K 80 [none, some (vI x1), none, none] [vI 0] (sh, I, L) (0, 0)) (kb : sK sh h3 ∈ [0, 1, 3, 5, 10]) : K 76 [none, some (vI x1), none, some (vR h3)] [] (sh, I, L) (0, 0) := by
  refine hK.1 76 [none, some (vI x1), none, some (vR h3)] [] (sh, I, L) (0, 0) ?_
  refine hK.2 [false, true, false, false] _ _ _ _ _ ?_
  refine hK.1 77 [none, some (vI x1), none, none] [vR h3] (sh, I, L) (0, 0) ?_
  exact instC kb (fun h => ky h) (fun h => kn h)
set_option maxRecDepth 4000 in
theorem B_X11_as_83 {Q : oQ} {K : oK} (hK : oCl tb_X11_as Q K) {sh : oS} {I : Nat → Nat → Int} {L : Nat → Nat → Int64} {x1 : Int} (k : K 88 [none, none, none, none] [vI x1] (sh, I, L) (0, 0)) : K 83 [none, some (vI x1), none, none] [] (sh, I, L) (0, 0) := by
  refine hK.1 83 [none, some (vI x1), none, none] [] (sh, I, L) (0, 0) ?_
  refine hK.1 84 [none, some (vI x1), none, none] [vI x1] (sh, I, L) (0, 0) ?_
  refine hK.2 [false, false, false, false] _ _ _ _ _ ?_
  exact k
set_option maxRecDepth 4000 in
theorem B_X11_as_87 {Q : oQ} {K : oK} (hK : oCl tb_X11_as Q K) {sh : oS} {I : Nat → Nat → Int} {L : Nat → Nat → Int64}  (k : K 88 [none, none, none, none] [vI (-1)] (sh, I, L) (0, 0)) : K 87 [none, none, none, none] [] (sh, I, L) (0, 0) := by
  refine hK.1 87 [none, none, none, none] [] (sh, I, L) (0, 0) ?_
  exact k
set_option maxRecDepth 4000 in
theorem B_X11_as_88 {Q : oQ} {K : oK} (hK : oCl tb_X11_as Q K) {sh : oS} {I : Nat → Nat → Int} {L : Nat → Nat → Int64} {s0 : Int} (k : Q (some (vI s0)) (sh, I, L)) : K 88 [none, none, none, none] [vI s0] (sh, I, L) (0, 0) := by
  refine hK.1 88 [none, none, none, none] [vI s0] (sh, I, L) (0, 0) ?_
  exact And.intro ⟨by decide, by decide⟩ k
set_option maxRecDepth 4000 in
theorem B_X11_as_89 {Q : oQ} {K : oK} (hK : oCl tb_X11_as Q K) {sh : oS} {I : Nat → Nat → Int} {L : Nat → Nat → Int64} {x1 : Int} {h3 : Nat} (ky : sK sh h3 ∈ [10] → K 93 [none, some (vI x1), none, none] [vI 1] (sh, I, L) (0, 0)) (kn : sK sh h3 ∈ [0, 1, 3, 5] → K 93 [none, some (vI x1), none, none] [vI 0] (sh, I, L) (0, 0)) (kb : sK sh h3 ∈ [0, 1, 3, 5, 10]) : K 89 [none, some (vI x1), none, some (vR h3)] [] (sh, I, L) (0, 0) := by
  refine hK.1 89 [none, some (vI x1), none, some (vR h3)] [] (sh, I, L) (0, 0) ?_
  refine hK.2 [false, true, false, false] _ _ _ _ _ ?_
  refine hK.1 90 [none, some (vI x1), none, none] [vR h3] (sh, I, L) (0, 0) ?_
  exact instC kb (fun h => ky h) (fun h => kn h)
set_option maxRecDepth 4000 in
theorem B_X11_as_96 {Q : oQ} {K : oK} (hK : oCl tb_X11_as Q K) {sh : oS} {I : Nat → Nat → Int} {L : Nat → Nat → Int64} {x1 : Int} (k : K 101 [none, none, none, none] [vI x1] (sh, I, L) (0, 0)) : K 96 [none, some (vI x1), none, none] [] (sh, I, L) (0, 0) := by
  refine hK.1 96 [none, some (vI x1), none, none] [] (sh, I, L) (0, 0) ?_
  refine hK.1 97 [none, some (vI x1), none, none] [vI x1] (sh, I, L) (0, 0) ?_
  refine hK.2 [false, false, false, false] _ _ _ _ _ ?_
  exact k
set_option maxRecDepth 4000 in
theorem B_X11_as_100 {Q : oQ} {K : oK} (hK : oCl tb_X11_as Q K) {sh : oS} {I : Nat → Nat → Int} {L : Nat → Nat → Int64}  (k : K 101 [none, none, none, none] [vI (-1)] (sh, I, L) (0, 0)) : K 100 [none, none, none, none] [] (sh, I, L) (0, 0) := by
  refine hK.1 100 [none, none, none, none] [] (sh, I, L) (0, 0) ?_
  exact k
set_option maxRecDepth 4000 in
theorem B_X11_as_101 {Q : oQ} {K : oK} (hK : oCl tb_X11_as Q K) {sh : oS} {I : Nat → Nat → Int} {L : Nat → Nat → Int64} {s0 : Int} (k : Q (some (vI s0)) (sh, I, L)) : K 101 [none, none, none, none] [vI s0] (sh, I, L) (0, 0) := by
  refine hK.1 101 [none, none, none, none] [vI s0] (sh, I, L) (0, 0) ?_
  exact And.intro ⟨by decide, by decide⟩ k
set_option maxRecDepth 4000 in
theorem B_X11_as_102 {Q : oQ} {K : oK} (hK : oCl tb_X11_as Q K) {sh : oS} {I : Nat → Nat → Int} {L : Nat → Nat → Int64}  (k : Q (some (vI (-102))) (sh, I, L)) : K 102 [none, none, none, none] [] (sh, I, L) (0, 0) := by
  refine hK.1 102 [none, none, none, none] [] (sh, I, L) (0, 0) ?_
  refine hK.1 104 [none, none, none, none] [vI (-102)] (sh, I, L) (0, 0) ?_
  exact And.intro ⟨by decide, by decide⟩ k
set_option maxRecDepth 4000 in
theorem B_X11_at_0 {Q : oQ} {K : oK} (hK : oCl tb_X11_at Q K) {sh : oS} (hs : Sh sh) {I : Nat → Nat → Int} {L : Nat → Nat → Int64} {x1 : Int} {x2 : Int} {x3 : Int} (k : T_X11_marchOf [vR 0, vI x1] (sh, I, L) (fun r mm => K 5 [some (vR 0), none, some (vI x2), some (vI x3), none] (r.toList ++ []) mm (0, 0))) : K 0 [some (vR 0), some (vI x1), some (vI x2), some (vI x3), none] [] (sh, I, L) (0, 0) := by
  refine hK.1 0 [some (vR 0), some (vI x1), some (vI x2), some (vI x3), none] [] (sh, I, L) (0, 0) ?_
  refine hK.1 1 [some (vR 0), some (vI x1), some (vI x2), some (vI x3), none] [vR 0] (sh, I, L) (0, 0) ?_
  refine hK.2 [true, false, true, true, false] _ _ _ _ _ ?_
  refine hK.1 2 [some (vR 0), none, some (vI x2), some (vI x3), none] [vI x1, vR 0] (sh, I, L) (0, 0) ?_
  exact And.intro ⟨(sk_0 hs), Nat.le_of_ble_eq_true rfl, Nat.le_of_ble_eq_true rfl, Nat.le_of_ble_eq_true rfl, Nat.le_of_ble_eq_true rfl⟩ k
set_option maxRecDepth 4000 in
theorem B_X11_at_5 {Q : oQ} {K : oK} (hK : oCl tb_X11_at Q K) {sh : oS} {I : Nat → Nat → Int} {L : Nat → Nat → Int64} {x2 : Int} {x3 : Int} {s0 : Nat} (k : K 12 [some (vR 0), none, some (vI x2), some (vI x3), some (vR s0)] [] (sh, I, L) (0, 0)) : K 5 [some (vR 0), none, some (vI x2), some (vI x3), none] [vR s0] (sh, I, L) (0, 0) := by
  refine hK.1 5 [some (vR 0), none, some (vI x2), some (vI x3), none] [vR s0] (sh, I, L) (0, 0) ?_
  refine hK.1 7 [some (vR 0), none, some (vI x2), some (vI x3), some (vR s0)] [] (sh, I, L) (0, 0) ?_
  refine hK.1 9 [some (vR 0), none, some (vI x2), some (vI x3), some (vR s0)] [vR s0] (sh, I, L) (0, 0) ?_
  exact k
set_option maxRecDepth 4000 in
theorem B_X11_at_5n {Q : oQ} {K : oK} (hK : oCl tb_X11_at Q K) {sh : oS} {I : Nat → Nat → Int} {L : Nat → Nat → Int64} {x2 : Int} {x3 : Int} (k : K 25 [none, none, none, none, none] [] (sh, I, L) (0, 0)) : K 5 [some (vR 0), none, some (vI x2), some (vI x3), none] [vN] (sh, I, L) (0, 0) := by
  refine hK.1 5 [some (vR 0), none, some (vI x2), some (vI x3), none] [vN] (sh, I, L) (0, 0) ?_
  refine hK.1 7 [some (vR 0), none, some (vI x2), some (vI x3), some vN] [] (sh, I, L) (0, 0) ?_
  refine hK.1 9 [some (vR 0), none, some (vI x2), some (vI x3), some vN] [vN] (sh, I, L) (0, 0) ?_
  refine hK.2 [false, false, false, false, false] _ _ _ _ _ ?_
  exact k
set_option maxRecDepth 4000 in
theorem B_X11_at_12 {Q : oQ} {K : oK} (hK : oCl tb_X11_at Q K) {sh : oS} {I : Nat → Nat → Int} {L : Nat → Nat → Int64} {x2 : Int} {x3 : Int} {h4 : Nat} (n13 : inR x3) (kt : x3 < 0 → K 25 [none, none, none, none, none] [] (sh, I, L) (0, 0)) (kf : ¬ (x3 < 0) → K 16 [some (vR 0), none, some (vI x2), some (vI x3), some (vR h4)] [] (sh, I, L) (0, 0)) : K 12 [some (vR 0), none, some (vI x2), some (vI x3), some (vR h4)] [] (sh, I, L) (0, 0) := by
  refine hK.1 12 [some (vR 0), none, some (vI x2), some (vI x3), some (vR h4)] [] (sh, I, L) (0, 0) ?_
  refine hK.1 13 [some (vR 0), none, some (vI x2), some (vI x3), some (vR h4)] [vI x3] (sh, I, L) (0, 0) ?_
  exact And.intro (n13) (And.intro (fun h => hK.2 [false, false, false, false, false] _ _ _ _ _ (kt h)) (fun h => hK.2 [true, false, true, true, true] _ _ _ _ _ (kf h)))
set_option maxRecDepth 4000 in
theorem B_X11_at_12n {Q : oQ} {K : oK} (hK : oCl tb_X11_at Q K) {sh : oS} {I : Nat → Nat → Int} {L : Nat → Nat → Int64} {x2 : Int} {x3 : Int} (n13 : inR x3) (kt : x3 < 0 → K 25 [none, none, none, none, none] [] (sh, I, L) (0, 0)) (kf : ¬ (x3 < 0) → K 16 [some (vR 0), none, some (vI x2), some (vI x3), some vN] [] (sh, I, L) (0, 0)) : K 12 [some (vR 0), none, some (vI x2), some (vI x3), some vN] [] (sh, I, L) (0, 0) := by
  refine hK.1 12 [some (vR 0), none, some (vI x2), some (vI x3), some vN] [] (sh, I, L) (0, 0) ?_
  refine hK.1 13 [some (vR 0), none, some (vI x2), some (vI x3), some vN] [vI x3] (sh, I, L) (0, 0) ?_
  exact And.intro (n13) (And.intro (fun h => hK.2 [false, false, false, false, false] _ _ _ _ _ (kt h)) (fun h => hK.2 [true, false, true, true, true] _ _ _ _ _ (kf h)))
set_option maxRecDepth 4000 in
theorem B_X11_at_16 {Q : oQ} {K : oK} (hK : oCl tb_X11_at Q K) {sh : oS} {I : Nat → Nat → Int} {L : Nat → Nat → Int64} {x2 : Int} {x3 : Int} {h4 : Nat} {h4e h4p h4t : Nat} (Ah4 : MarchAt sh h4 h4e h4p h4t) (n22a : inR x3) (n22b : inR (I h4 0)) (kt : x3 < I h4 0 → K 28 [some (vR 0), none, some (vI x2), some (vI x3), some (vR h4)] [] (sh, I, L) (0, 0)) (kf : ¬ (x3 < I h4 0) → K 25 [none, none, none, none, none] [] (sh, I, L) (0, 0)) : K 16 [some (vR 0), none, some (vI x2), some (vI x3), some (vR h4)] [] (sh, I, L) (0, 0) := by
  refine hK.1 16 [some (vR 0), none, some (vI x2), some (vI x3), some (vR h4)] [] (sh, I, L) (0, 0) ?_
  refine hK.1 17 [some (vR 0), none, some (vI x2), some (vI x3), some (vR h4)] [vI x3] (sh, I, L) (0, 0) ?_
  refine hK.1 19 [some (vR 0), none, some (vI x2), some (vI x3), some (vR h4)] [vR h4, vI x3] (sh, I, L) (0, 0) ?_
  refine And.intro (mem1 Ah4.1) ?_
  refine hK.1 22 [some (vR 0), none, some (vI x2), some (vI x3), some (vR h4)] [vI (I h4 0), vI x3] (sh, I, L) (0, 0) ?_
  exact And.intro (And.intro n22a n22b) (And.intro (fun h => hK.2 [true, false, true, true, true] _ _ _ _ _ (kt h)) (fun h => hK.2 [false, false, false, false, false] _ _ _ _ _ (kf h)))
set_option maxRecDepth 4000 in
theorem B_X11_at_25 {Q : oQ} {K : oK} (hK : oCl tb_X11_at Q K) {sh : oS} {I : Nat → Nat → Int} {L : Nat → Nat → Int64}  (k : Q (some (vI (-101))) (sh, I, L)) : K 25 [none, none, none, none, none] [] (sh, I, L) (0, 0) := by
  refine hK.1 25 [none, none, none, none, none] [] (sh, I, L) (0, 0) ?_
  refine hK.1 27 [none, none, none, none, none] [vI (-101)] (sh, I, L) (0, 0) ?_
  exact And.intro ⟨by decide, by decide⟩ k
set_option maxRecDepth 4000 in
theorem B_X11_at_28 {Q : oQ} {K : oK} (hK : oCl tb_X11_at Q K) {sh : oS} (hs : Sh sh) {I : Nat → Nat → Int} {L : Nat → Nat → Int64} {x2 : Int} {x3 : Int} {h4 : Nat} (n35 : inR (I 3 0)) (kt : ¬ I 3 0 = 0 → K 41 [some (vR 0), none, some (vI x2), some (vI x3), some (vR h4)] [] (sh, I, L) (0, 0)) (kf : ¬ (¬ I 3 0 = 0) → K 38 [none, none, none, none, none] [] (sh, I, L) (0, 0)) : K 28 [some (vR 0), none, some (vI x2), some (vI x3), some (vR h4)] [] (sh, I, L) (0, 0) := by
  refine hK.1 28 [some (vR 0), none, some (vI x2), some (vI x3), some (vR h4)] [] (sh, I, L) (0, 0) ?_
  refine hK.1 29 [some (vR 0), none, some (vI x2), some (vI x3), some (vR h4)] [vR 0] (sh, I, L) (0, 0) ?_
  refine And.intro (mem1 (sk_0 hs)) (Exists.intro 3 (And.intro (sr_0_1 hs) ?_))
  refine hK.1 32 [some (vR 0), none, some (vI x2), some (vI x3), some (vR h4)] [vR 3] (sh, I, L) (0, 0) ?_
  refine And.intro (mem1 (sk_3 hs)) ?_
  refine hK.1 35 [some (vR 0), none, some (vI x2), some (vI x3), some (vR h4)] [vI (I 3 0)] (sh, I, L) (0, 0) ?_
  exact And.intro (n35) (And.intro (fun h => hK.2 [true, false, true, true, true] _ _ _ _ _ (kt h)) (fun h => hK.2 [false, false, false, false, false] _ _ _ _ _ (kf h)))
set_option maxRecDepth 4000 in
theorem B_X11_at_28n {Q : oQ} {K : oK} (hK : oCl tb_X11_at Q K) {sh : oS} (hs : Sh sh) {I : Nat → Nat → Int} {L : Nat → Nat → Int64} {x2 : Int} {x3 : Int} (n35 : inR (I 3 0)) (kt : ¬ I 3 0 = 0 → K 41 [some (vR 0), none, some (vI x2), some (vI x3), some vN] [] (sh, I, L) (0, 0)) (kf : ¬ (¬ I 3 0 = 0) → K 38 [none, none, none, none, none] [] (sh, I, L) (0, 0)) : K 28 [some (vR 0), none, some (vI x2), some (vI x3), some vN] [] (sh, I, L) (0, 0) := by
  refine hK.1 28 [some (vR 0), none, some (vI x2), some (vI x3), some vN] [] (sh, I, L) (0, 0) ?_
  refine hK.1 29 [some (vR 0), none, some (vI x2), some (vI x3), some vN] [vR 0] (sh, I, L) (0, 0) ?_
  refine And.intro (mem1 (sk_0 hs)) (Exists.intro 3 (And.intro (sr_0_1 hs) ?_))
  refine hK.1 32 [some (vR 0), none, some (vI x2), some (vI x3), some vN] [vR 3] (sh, I, L) (0, 0) ?_
  refine And.intro (mem1 (sk_3 hs)) ?_
  refine hK.1 35 [some (vR 0), none, some (vI x2), some (vI x3), some vN] [vI (I 3 0)] (sh, I, L) (0, 0) ?_
  exact And.intro (n35) (And.intro (fun h => hK.2 [true, false, true, true, true] _ _ _ _ _ (kt h)) (fun h => hK.2 [false, false, false, false, false] _ _ _ _ _ (kf h)))
set_option maxRecDepth 4000 in
theorem B_X11_at_38 {Q : oQ} {K : oK} (hK : oCl tb_X11_at Q K) {sh : oS} {I : Nat → Nat → Int} {L : Nat → Nat → Int64}  (k : Q (some (vI (-103))) (sh, I, L)) : K 38 [none, none, none, none, none] [] (sh, I, L) (0, 0) := by
  refine hK.1 38 [none, none, none, none, none] [] (sh, I, L) (0, 0) ?_
  refine hK.1 40 [none, none, none, none, none] [vI (-103)] (sh, I, L) (0, 0) ?_
  exact And.intro ⟨by decide, by decide⟩ k
set_option maxRecDepth 4000 in
theorem B_X11_at_41 {Q : oQ} {K : oK} (hK : oCl tb_X11_at Q K) {sh : oS} {I : Nat → Nat → Int} {L : Nat → Nat → Int64} {x2 : Int} {x3 : Int} {h4 : Nat} {h4e h4p h4t : Nat} (k : T_X6_hasWay [vR h4, vI x2] (sh, I, L) (fun r mm => K 47 [some (vR 0), none, some (vI x2), some (vI x3), some (vR h4)] (r.toList ++ []) mm (0, 0))) (Ah4 : MarchAt sh h4 h4e h4p h4t) : K 41 [some (vR 0), none, some (vI x2), some (vI x3), some (vR h4)] [] (sh, I, L) (0, 0) := by
  refine hK.1 41 [some (vR 0), none, some (vI x2), some (vI x3), some (vR h4)] [] (sh, I, L) (0, 0) ?_
  refine hK.1 43 [some (vR 0), none, some (vI x2), some (vI x3), some (vR h4)] [vR h4] (sh, I, L) (0, 0) ?_
  refine hK.1 44 [some (vR 0), none, some (vI x2), some (vI x3), some (vR h4)] [vI x2, vR h4] (sh, I, L) (0, 0) ?_
  exact And.intro ⟨Ah4.1, Nat.le_of_ble_eq_true rfl, Nat.le_of_ble_eq_true rfl, Nat.le_of_ble_eq_true rfl, Nat.le_of_ble_eq_true rfl⟩ k
set_option maxRecDepth 4000 in
theorem B_X11_at_47 {Q : oQ} {K : oK} (hK : oCl tb_X11_at Q K) {sh : oS} {I : Nat → Nat → Int} {L : Nat → Nat → Int64} {x2 : Int} {x3 : Int} {h4 : Nat} {s0 : Int} (n47 : inR s0) (kt : ¬ s0 = 0 → K 53 [some (vR 0), none, some (vI x2), some (vI x3), some (vR h4)] [] (sh, I, L) (0, 0)) (kf : ¬ (¬ s0 = 0) → K 50 [none, none, none, none, none] [] (sh, I, L) (0, 0)) : K 47 [some (vR 0), none, some (vI x2), some (vI x3), some (vR h4)] [vI s0] (sh, I, L) (0, 0) := by
  refine hK.1 47 [some (vR 0), none, some (vI x2), some (vI x3), some (vR h4)] [vI s0] (sh, I, L) (0, 0) ?_
  exact And.intro (n47) (And.intro (fun h => hK.2 [true, false, true, true, true] _ _ _ _ _ (kt h)) (fun h => hK.2 [false, false, false, false, false] _ _ _ _ _ (kf h)))
set_option maxRecDepth 4000 in
theorem B_X11_at_47n {Q : oQ} {K : oK} (hK : oCl tb_X11_at Q K) {sh : oS} {I : Nat → Nat → Int} {L : Nat → Nat → Int64} {x2 : Int} {x3 : Int} {s0 : Int} (n47 : inR s0) (kt : ¬ s0 = 0 → K 53 [some (vR 0), none, some (vI x2), some (vI x3), some vN] [] (sh, I, L) (0, 0)) (kf : ¬ (¬ s0 = 0) → K 50 [none, none, none, none, none] [] (sh, I, L) (0, 0)) : K 47 [some (vR 0), none, some (vI x2), some (vI x3), some vN] [vI s0] (sh, I, L) (0, 0) := by
  refine hK.1 47 [some (vR 0), none, some (vI x2), some (vI x3), some vN] [vI s0] (sh, I, L) (0, 0) ?_
  exact And.intro (n47) (And.intro (fun h => hK.2 [true, false, true, true, true] _ _ _ _ _ (kt h)) (fun h => hK.2 [false, false, false, false, false] _ _ _ _ _ (kf h)))
set_option maxRecDepth 4000 in
theorem B_X11_at_50 {Q : oQ} {K : oK} (hK : oCl tb_X11_at Q K) {sh : oS} {I : Nat → Nat → Int} {L : Nat → Nat → Int64}  (k : Q (some (vI (-102))) (sh, I, L)) : K 50 [none, none, none, none, none] [] (sh, I, L) (0, 0) := by
  refine hK.1 50 [none, none, none, none, none] [] (sh, I, L) (0, 0) ?_
  refine hK.1 52 [none, none, none, none, none] [vI (-102)] (sh, I, L) (0, 0) ?_
  exact And.intro ⟨by decide, by decide⟩ k
set_option maxRecDepth 4000 in
theorem B_X11_at_53 {Q : oQ} {K : oK} (hK : oCl tb_X11_at Q K) {sh : oS} (hs : Sh sh) {I : Nat → Nat → Int} {L : Nat → Nat → Int64} {x2 : Int} {x3 : Int} {h4 : Nat} {h4e h4p h4t : Nat} (k : T_X6_walk [vR h4, vI (I 3 0), vI x2, vR 29] (sh, I, L) (fun r mm => K 73 [some (vR 0), none, none, some (vI x3), none] (r.toList ++ []) mm (0, 0))) (Ah4 : MarchAt sh h4 h4e h4p h4t) : K 53 [some (vR 0), none, some (vI x2), some (vI x3), some (vR h4)] [] (sh, I, L) (0, 0) := by
  refine hK.1 53 [some (vR 0), none, some (vI x2), some (vI x3), some (vR h4)] [] (sh, I, L) (0, 0) ?_
  refine hK.1 55 [some (vR 0), none, some (vI x2), some (vI x3), some (vR h4)] [vR h4] (sh, I, L) (0, 0) ?_
  refine hK.1 56 [some (vR 0), none, some (vI x2), some (vI x3), some (vR h4)] [vR 0, vR h4] (sh, I, L) (0, 0) ?_
  refine And.intro (mem1 (sk_0 hs)) (Exists.intro 3 (And.intro (sr_0_1 hs) ?_))
  refine hK.1 59 [some (vR 0), none, some (vI x2), some (vI x3), some (vR h4)] [vR 3, vR h4] (sh, I, L) (0, 0) ?_
  refine And.intro (mem1 (sk_3 hs)) ?_
  refine hK.1 62 [some (vR 0), none, some (vI x2), some (vI x3), some (vR h4)] [vI (I 3 0), vR h4] (sh, I, L) (0, 0) ?_
  refine hK.1 63 [some (vR 0), none, some (vI x2), some (vI x3), some (vR h4)] [vI x2, vI (I 3 0), vR h4] (sh, I, L) (0, 0) ?_
  refine hK.1 64 [some (vR 0), none, some (vI x2), some (vI x3), some (vR h4)] [vR 0, vI x2, vI (I 3 0), vR h4] (sh, I, L) (0, 0) ?_
  refine And.intro (mem1 (sk_0 hs)) (Exists.intro 24 (And.intro (sr_0_14 hs) ?_))
  refine hK.1 67 [some (vR 0), none, some (vI x2), some (vI x3), some (vR h4)] [vR 24, vI x2, vI (I 3 0), vR h4] (sh, I, L) (0, 0) ?_
  refine And.intro (mem1 (sk_24 hs)) (Exists.intro 29 (And.intro (sr_24_1 hs) ?_))
  refine hK.2 [true, false, false, true, false] _ _ _ _ _ ?_
  refine hK.1 70 [some (vR 0), none, none, some (vI x3), none] [vR 29, vI x2, vI (I 3 0), vR h4] (sh, I, L) (0, 0) ?_
  exact And.intro ⟨Ah4.1, Nat.le_of_ble_eq_true rfl, Nat.le_of_ble_eq_true rfl, Nat.le_of_ble_eq_true rfl, Nat.le_of_ble_eq_true rfl⟩ k
set_option maxRecDepth 4000 in
theorem B_X11_at_73 {Q : oQ} {K : oK} (hK : oCl tb_X11_at Q K) {sh : oS} (hs : Sh sh) {I : Nat → Nat → Int} {L : Nat → Nat → Int64} {x3 : Int} (b81 : 0 ≤ x3 ∧ x3 < 10) (k : Q (some (vI (I 29 (x3.toNat)))) (sh, I, L)) : K 73 [some (vR 0), none, none, some (vI x3), none] [] (sh, I, L) (0, 0) := by
  refine hK.1 73 [some (vR 0), none, none, some (vI x3), none] [] (sh, I, L) (0, 0) ?_
  refine hK.1 74 [some (vR 0), none, none, some (vI x3), none] [vR 0] (sh, I, L) (0, 0) ?_
  refine And.intro (mem1 (sk_0 hs)) (Exists.intro 24 (And.intro (sr_0_14 hs) ?_))
  refine hK.1 77 [some (vR 0), none, none, some (vI x3), none] [vR 24] (sh, I, L) (0, 0) ?_
  refine And.intro (mem1 (sk_24 hs)) (Exists.intro 29 (And.intro (sr_24_1 hs) ?_))
  refine hK.1 80 [some (vR 0), none, none, some (vI x3), none] [vR 29] (sh, I, L) (0, 0) ?_
  refine hK.1 81 [some (vR 0), none, none, some (vI x3), none] [vI x3, vR 29] (sh, I, L) (0, 0) ?_
  refine And.intro (And.intro (sk_29 hs) (ixL (sl_29 hs) b81)) ?_
  refine hK.1 82 [some (vR 0), none, none, some (vI x3), none] [vI (I 29 (x3.toNat))] (sh, I, L) (0, 0) ?_
  exact And.intro ⟨by decide, by decide⟩ k
set_option maxRecDepth 4000 in
theorem B_X11_bakes_0 {Q : oQ} {K : oK} (hK : oCl tb_X11_bakes Q K) {sh : oS} (hs : Sh sh) {I : Nat → Nat → Int} {L : Nat → Nat → Int64} {x1 : Int} {x2 : Int} {x3 : Int} {x4 : Int} (k : T_X11_refusal [vR 0, vI x1, vI x2] (sh, I, L) (fun r mm => K 6 [some (vR 0), some (vI x1), some (vI x2), some (vI x3), some (vI x4), none] (r.toList ++ []) mm (0, 0))) : K 0 [some (vR 0), some (vI x1), some (vI x2), some (vI x3), some (vI x4), none] [] (sh, I, L) (0, 0) := by
  refine hK.1 0 [some (vR 0), some (vI x1), some (vI x2), some (vI x3), some (vI x4), none] [] (sh, I, L) (0, 0) ?_
  refine hK.1 1 [some (vR 0), some (vI x1), some (vI x2), some (vI x3), some (vI x4), none] [vR 0] (sh, I, L) (0, 0) ?_
  refine hK.1 2 [some (vR 0), some (vI x1), some (vI x2), some (vI x3), some (vI x4), none] [vI x1, vR 0] (sh, I, L) (0, 0) ?_
  refine hK.1 3 [some (vR 0), some (vI x1), some (vI x2), some (vI x3), some (vI x4), none] [vI x2, vI x1, vR 0] (sh, I, L) (0, 0) ?_
  exact And.intro ⟨(sk_0 hs), Nat.le_of_ble_eq_true rfl, Nat.le_of_ble_eq_true rfl, Nat.le_of_ble_eq_true rfl, Nat.le_of_ble_eq_true rfl⟩ k
set_option maxRecDepth 4000 in
theorem B_X11_bakes_6 {Q : oQ} {K : oK} (hK : oCl tb_X11_bakes Q K) {sh : oS} {I : Nat → Nat → Int} {L : Nat → Nat → Int64} {x1 : Int} {x2 : Int} {x3 : Int} {x4 : Int} {s0 : Int} (n10 : inR s0) (kt : s0 = 0 → K 16 [some (vR 0), some (vI x1), some (vI x2), some (vI x3), some (vI x4), none] [] (sh, I, L) (0, 0)) (kf : ¬ (s0 = 0) → K 13 [none, none, none, none, none, some (vI s0)] [] (sh, I, L) (0, 0)) : K 6 [some (vR 0), some (vI x1), some (vI x2), some (vI x3), some (vI x4), none] [vI s0] (sh, I, L) (0, 0) := by
  refine hK.1 6 [some (vR 0), some (vI x1), some (vI x2), some (vI x3), some (vI x4), none] [vI s0] (sh, I, L) (0, 0) ?_
  refine hK.1 8 [some (vR 0), some (vI x1), some (vI x2), some (vI x3), some (vI x4), some (vI s0)] [] (sh, I, L) (0, 0) ?_
  refine hK.1 10 [some (vR 0), some (vI x1), some (vI x2), some (vI x3), some (vI x4), some (vI s0)] [vI s0] (sh, I, L) (0, 0) ?_
  exact And.intro (n10) (And.intro (fun h => hK.2 [true, true, true, true, true, false] _ _ _ _ _ (kt h)) (fun h => hK.2 [false, false, false, false, false, true] _ _ _ _ _ (kf h)))
set_option maxRecDepth 4000 in
theorem B_X11_bakes_13 {Q : oQ} {K : oK} (hK : oCl tb_X11_bakes Q K) {sh : oS} {I : Nat → Nat → Int} {L : Nat → Nat → Int64} {x5 : Int} (k : Q (some (vI x5)) (sh, I, L)) : K 13 [none, none, none, none, none, some (vI x5)] [] (sh, I, L) (0, 0) := by
  refine hK.1 13 [none, none, none, none, none, some (vI x5)] [] (sh, I, L) (0, 0) ?_
  refine hK.1 15 [none, none, none, none, none, some (vI x5)] [vI x5] (sh, I, L) (0, 0) ?_
  exact And.intro ⟨by decide, by decide⟩ k
set_option maxRecDepth 4000 in
theorem B_X11_bakes_16 {Q : oQ} {K : oK} (hK : oCl tb_X11_bakes Q K) {sh : oS} (hs : Sh sh) {I : Nat → Nat → Int} {L : Nat → Nat → Int64} {x1 : Int} {x2 : Int} {x3 : Int} {x4 : Int} (k : T_X4_has [vR 3, vI x3] (sh, I, L) (fun r mm => K 24 [some (vR 0), some (vI x1), some (vI x2), some (vI x3), some (vI x4), none] (r.toList ++ []) mm (0, 0))) : K 16 [some (vR 0), some (vI x1), some (vI x2), some (vI x3), some (vI x4), none] [] (sh, I, L) (0, 0) := by
  refine hK.1 16 [some (vR 0), some (vI x1), some (vI x2), some (vI x3), some (vI x4), none] [] (sh, I, L) (0, 0) ?_
  refine hK.1 17 [some (vR 0), some (vI x1), some (vI x2), some (vI x3), some (vI x4), none] [vR 0] (sh, I, L) (0, 0) ?_
  refine And.intro (mem1 (sk_0 hs)) (Exists.intro 3 (And.intro (sr_0_1 hs) ?_))
  refine hK.1 20 [some (vR 0), some (vI x1), some (vI x2), some (vI x3), some (vI x4), none] [vR 3] (sh, I, L) (0, 0) ?_
  refine hK.1 21 [some (vR 0), some (vI x1), some (vI x2), some (vI x3), some (vI x4), none] [vI x3, vR 3] (sh, I, L) (0, 0) ?_
  exact And.intro ⟨(sk_3 hs), Nat.le_of_ble_eq_true rfl, Nat.le_of_ble_eq_true rfl, Nat.le_of_ble_eq_true rfl, Nat.le_of_ble_eq_true rfl⟩ k
set_option maxRecDepth 4000 in
theorem B_X11_bakes_24 {Q : oQ} {K : oK} (hK : oCl tb_X11_bakes Q K) {sh : oS} {I : Nat → Nat → Int} {L : Nat → Nat → Int64} {x1 : Int} {x2 : Int} {x3 : Int} {x4 : Int} {s0 : Int} (n24 : inR s0) (kt : s0 = 0 → K 46 [none, none, none, none, none, none] [] (sh, I, L) (0, 0)) (kf : ¬ (s0 = 0) → K 27 [some (vR 0), some (vI x1), some (vI x2), some (vI x3), some (vI x4), none] [] (sh, I, L) (0, 0)) : K 24 [some (vR 0), some (vI x1), some (vI x2), some (vI x3), some (vI x4), none] [vI s0] (sh, I, L) (0, 0) := by
  refine hK.1 24 [some (vR 0), some (vI x1), some (vI x2), some (vI x3), some (vI x4), none] [vI s0] (sh, I, L) (0, 0) ?_
  exact And.intro (n24) (And.intro (fun h => hK.2 [false, false, false, false, false, false] _ _ _ _ _ (kt h)) (fun h => hK.2 [true, true, true, true, true, false] _ _ _ _ _ (kf h)))
set_option maxRecDepth 4000 in
theorem B_X11_bakes_27 {Q : oQ} {K : oK} (hK : oCl tb_X11_bakes Q K) {sh : oS} {I : Nat → Nat → Int} {L : Nat → Nat → Int64} {x1 : Int} {x2 : Int} {x3 : Int} {x4 : Int} (n29 : inR x4) (kt : x4 < 0 → K 46 [none, none, none, none, none, none] [] (sh, I, L) (0, 0)) (kf : ¬ (x4 < 0) → K 32 [some (vR 0), some (vI x1), some (vI x2), some (vI x3), some (vI x4), none] [] (sh, I, L) (0, 0)) : K 27 [some (vR 0), some (vI x1), some (vI x2), some (vI x3), some (vI x4), none] [] (sh, I, L) (0, 0) := by
  refine hK.1 27 [some (vR 0), some (vI x1), some (vI x2), some (vI x3), some (vI x4), none] [] (sh, I, L) (0, 0) ?_
  refine hK.1 29 [some (vR 0), some (vI x1), some (vI x2), some (vI x3), some (vI x4), none] [vI x4] (sh, I, L) (0, 0) ?_
  exact And.intro (n29) (And.intro (fun h => hK.2 [false, false, false, false, false, false] _ _ _ _ _ (kt h)) (fun h => hK.2 [true, true, true, true, true, false] _ _ _ _ _ (kf h)))
set_option maxRecDepth 4000 in
theorem B_X11_bakes_32 {Q : oQ} {K : oK} (hK : oCl tb_X11_bakes Q K) {sh : oS} (hs : Sh sh) {I : Nat → Nat → Int} {L : Nat → Nat → Int64} {x1 : Int} {x2 : Int} {x3 : Int} {x4 : Int} {q39 : Nat} {q39e q39p q39t : Nat} (b39 : 0 ≤ x2 ∧ x2 < 4) (r39 : sR sh 9 (x2.toNat) = some q39) (Aq39 : MarchAt sh q39 q39e q39p q39t) (n43a : inR x4) (n43b : inR (I q39 0)) (kt : x4 < I q39 0 → K 49 [some (vR 0), some (vI x1), some (vI x2), some (vI x3), some (vI x4), none] [] (sh, I, L) (0, 0)) (kf : ¬ (x4 < I q39 0) → K 46 [none, none, none, none, none, none] [] (sh, I, L) (0, 0)) : K 32 [some (vR 0), some (vI x1), some (vI x2), some (vI x3), some (vI x4), none] [] (sh, I, L) (0, 0) := by
  refine hK.1 32 [some (vR 0), some (vI x1), some (vI x2), some (vI x3), some (vI x4), none] [] (sh, I, L) (0, 0) ?_
  refine hK.1 34 [some (vR 0), some (vI x1), some (vI x2), some (vI x3), some (vI x4), none] [vI x4] (sh, I, L) (0, 0) ?_
  refine hK.1 35 [some (vR 0), some (vI x1), some (vI x2), some (vI x3), some (vI x4), none] [vR 0, vI x4] (sh, I, L) (0, 0) ?_
  refine And.intro (mem1 (sk_0 hs)) (Exists.intro 9 (And.intro (sr_0_3 hs) ?_))
  refine hK.1 38 [some (vR 0), some (vI x1), some (vI x2), some (vI x3), some (vI x4), none] [vR 9, vI x4] (sh, I, L) (0, 0) ?_
  refine hK.1 39 [some (vR 0), some (vI x1), some (vI x2), some (vI x3), some (vI x4), none] [vI x2, vR 9, vI x4] (sh, I, L) (0, 0) ?_
  refine And.intro (And.intro (sk_9 hs) (ixL (sl_9 hs) b39)) (Exists.intro q39 (And.intro r39 ?_))
  refine hK.1 40 [some (vR 0), some (vI x1), some (vI x2), some (vI x3), some (vI x4), none] [vR q39, vI x4] (sh, I, L) (0, 0) ?_
  refine And.intro (mem1 Aq39.1) ?_
  refine hK.1 43 [some (vR 0), some (vI x1), some (vI x2), some (vI x3), some (vI x4), none] [vI (I q39 0), vI x4] (sh, I, L) (0, 0) ?_
  exact And.intro (And.intro n43a n43b) (And.intro (fun h => hK.2 [true, true, true, true, true, false] _ _ _ _ _ (kt h)) (fun h => hK.2 [false, false, false, false, false, false] _ _ _ _ _ (kf h)))
set_option maxRecDepth 4000 in
theorem B_X11_bakes_46 {Q : oQ} {K : oK} (hK : oCl tb_X11_bakes Q K) {sh : oS} {I : Nat → Nat → Int} {L : Nat → Nat → Int64}  (k : Q (some (vI (-101))) (sh, I, L)) : K 46 [none, none, none, none, none, none] [] (sh, I, L) (0, 0) := by
  refine hK.1 46 [none, none, none, none, none, none] [] (sh, I, L) (0, 0) ?_
  refine hK.1 48 [none, none, none, none, none, none] [vI (-101)] (sh, I, L) (0, 0) ?_
  exact And.intro ⟨by decide, by decide⟩ k
set_option maxRecDepth 4000 in
theorem B_X11_bakes_49 {Q : oQ} {K : oK} (hK : oCl tb_X11_bakes Q K) {sh : oS} (hs : Sh sh) {I : Nat → Nat → Int} {L : Nat → Nat → Int64} {x1 : Int} {x2 : Int} {x3 : Int} {x4 : Int} (k : T_X11_pitch [vR 0, vI x1, vI x2] (sh, I, L) (fun r mm => K 55 [some (vR 0), none, none, some (vI x3), some (vI x4), none] (r.toList ++ []) mm (0, 0))) : K 49 [some (vR 0), some (vI x1), some (vI x2), some (vI x3), some (vI x4), none] [] (sh, I, L) (0, 0) := by
  refine hK.1 49 [some (vR 0), some (vI x1), some (vI x2), some (vI x3), some (vI x4), none] [] (sh, I, L) (0, 0) ?_
  refine hK.1 50 [some (vR 0), some (vI x1), some (vI x2), some (vI x3), some (vI x4), none] [vR 0] (sh, I, L) (0, 0) ?_
  refine hK.1 51 [some (vR 0), some (vI x1), some (vI x2), some (vI x3), some (vI x4), none] [vI x1, vR 0] (sh, I, L) (0, 0) ?_
  refine hK.2 [true, false, false, true, true, false] _ _ _ _ _ ?_
  refine hK.1 52 [some (vR 0), none, none, some (vI x3), some (vI x4), none] [vI x2, vI x1, vR 0] (sh, I, L) (0, 0) ?_
  exact And.intro ⟨(sk_0 hs), Nat.le_of_ble_eq_true rfl, Nat.le_of_ble_eq_true rfl, Nat.le_of_ble_eq_true rfl, Nat.le_of_ble_eq_true rfl⟩ k
set_option maxRecDepth 4000 in
theorem B_X11_bakes_55 {Q : oQ} {K : oK} (hK : oCl tb_X11_bakes Q K) {sh : oS} (hs : Sh sh) {I : Nat → Nat → Int} {L : Nat → Nat → Int64} {x3 : Int} {x4 : Int} (k : T_X9_bakingAt [vR 25, vI x3, vI x4, vI (I 3 4)] (sh, I, L) (fun r mm => K 75 [some (vR 0), none, none, none, none, none] (r.toList ++ []) mm (0, 0))) : K 55 [some (vR 0), none, none, some (vI x3), some (vI x4), none] [] (sh, I, L) (0, 0) := by
  refine hK.1 55 [some (vR 0), none, none, some (vI x3), some (vI x4), none] [] (sh, I, L) (0, 0) ?_
  refine hK.1 56 [some (vR 0), none, none, some (vI x3), some (vI x4), none] [vR 0] (sh, I, L) (0, 0) ?_
  refine And.intro (mem1 (sk_0 hs)) (Exists.intro 24 (And.intro (sr_0_14 hs) ?_))
  refine hK.1 59 [some (vR 0), none, none, some (vI x3), some (vI x4), none] [vR 24] (sh, I, L) (0, 0) ?_
  refine And.intro (mem1 (sk_24 hs)) (Exists.intro 25 (And.intro (sr_24_0 hs) ?_))
  refine hK.1 62 [some (vR 0), none, none, some (vI x3), some (vI x4), none] [vR 25] (sh, I, L) (0, 0) ?_
  refine hK.1 63 [some (vR 0), none, none, some (vI x3), some (vI x4), none] [vI x3, vR 25] (sh, I, L) (0, 0) ?_
  refine hK.1 65 [some (vR 0), none, none, some (vI x3), some (vI x4), none] [vI x4, vI x3, vR 25] (sh, I, L) (0, 0) ?_
  refine hK.1 66 [some (vR 0), none, none, some (vI x3), some (vI x4), none] [vR 0, vI x4, vI x3, vR 25] (sh, I, L) (0, 0) ?_
  refine And.intro (mem1 (sk_0 hs)) (Exists.intro 3 (And.intro (sr_0_1 hs) ?_))
  refine hK.1 69 [some (vR 0), none, none, some (vI x3), some (vI x4), none] [vR 3, vI x4, vI x3, vR 25] (sh, I, L) (0, 0) ?_
  refine And.intro (mem1 (sk_3 hs)) ?_
  refine hK.2 [true, false, false, false, false, false] _ _ _ _ _ ?_
  refine hK.1 72 [some (vR 0), none, none, none, none, none] [vI (I 3 4), vI x4, vI x3, vR 25] (sh, I, L) (0, 0) ?_
  exact And.intro ⟨(sk_25 hs), Nat.le_of_ble_eq_true rfl, Nat.le_of_ble_eq_true rfl, Nat.le_of_ble_eq_true rfl, Nat.le_of_ble_eq_true rfl⟩ k
set_option maxRecDepth 4000 in
theorem B_X11_bakes_75 {Q : oQ} {K : oK} (hK : oCl tb_X11_bakes Q K) {sh : oS} (hs : Sh sh) {I : Nat → Nat → Int} {L : Nat → Nat → Int64} {s0 : Int} (k : Q (some (vI (s0 * (I 3 3)))) (sh, I, L)) : K 75 [some (vR 0), none, none, none, none, none] [vI s0] (sh, I, L) (0, 0) := by
  refine hK.1 75 [some (vR 0), none, none, none, none, none] [vI s0] (sh, I, L) (0, 0) ?_
  refine hK.1 76 [some (vR 0), none, none, none, none, none] [vR 0, vI s0] (sh, I, L) (0, 0) ?_
  refine And.intro (mem1 (sk_0 hs)) (Exists.intro 3 (And.intro (sr_0_1 hs) ?_))
  refine hK.1 79 [some (vR 0), none, none, none, none, none] [vR 3, vI s0] (sh, I, L) (0, 0) ?_
  refine And.intro (mem1 (sk_3 hs)) ?_
  refine hK.1 82 [some (vR 0), none, none, none, none, none] [vI (I 3 3), vI s0] (sh, I, L) (0, 0) ?_
  refine hK.1 83 [some (vR 0), none, none, none, none, none] [vI (s0 * (I 3 3))] (sh, I, L) (0, 0) ?_
  exact And.intro ⟨by decide, by decide⟩ k
set_option maxRecDepth 4000 in
theorem B_X11_blank_0 {Q : oQ} {K : oK} (hK : oCl tb_X11_blank Q K) {sh : oS} (hs : Sh sh) {I : Nat → Nat → Int} {L : Nat → Nat → Int64}  (k : Q (some (vI (I 1 1))) (sh, (u2 I 1 1 0), L)) : K 0 [some (vR 0), none] [] (sh, I, L) (0, 0) := by
  refine hK.1 0 [some (vR 0), none] [] (sh, I, L) (0, 0) ?_
  refine hK.1 1 [some (vR 0), none] [vR 0] (sh, I, L) (0, 0) ?_
  refine And.intro (mem1 (sk_0 hs)) (Exists.intro 1 (And.intro (sr_0_0 hs) ?_))
  refine hK.1 4 [some (vR 0), none] [vR 1] (sh, I, L) (0, 0) ?_
  refine And.intro (mem1 (sk_1 hs)) ?_
  refine hK.1 7 [some (vR 0), none] [vI (I 1 1)] (sh, I, L) (0, 0) ?_
  refine hK.1 8 [some (vR 0), some (vI (I 1 1))] [] (sh, I, L) (0, 0) ?_
  refine hK.1 9 [some (vR 0), some (vI (I 1 1))] [vR 0] (sh, I, L) (0, 0) ?_
  refine And.intro (mem1 (sk_0 hs)) (Exists.intro 1 (And.intro (sr_0_0 hs) ?_))
  refine hK.1 12 [some (vR 0), some (vI (I 1 1))] [vR 1] (sh, I, L) (0, 0) ?_
  refine hK.1 13 [some (vR 0), some (vI (I 1 1))] [vI 0, vR 1] (sh, I, L) (0, 0) ?_
  refine And.intro (mem1 (sk_1 hs)) ?_
  refine hK.1 16 [some (vR 0), some (vI (I 1 1))] [] (sh, (u2 I 1 1 0), L) (0, 0) ?_
  refine hK.1 17 [some (vR 0), some (vI (I 1 1))] [vI (I 1 1)] (sh, (u2 I 1 1 0), L) (0, 0) ?_
  exact And.intro ⟨by decide, by decide⟩ k
set_option maxRecDepth 4000 in
theorem B_X11_keptAt_0 {Q : oQ} {K : oK} (hK : oCl tb_X11_keptAt Q K) {sh : oS} {I : Nat → Nat → Int} {L : Nat → Nat → Int64} {x0 : Int} {x1 : Int} {x2 : Int} (k : Q (some (vI ((((x0 * 4) + x1) * 4) + x2))) (sh, I, L)) : K 0 [some (vI x0), some (vI x1), some (vI x2)] [] (sh, I, L) (0, 0) := by
  refine hK.1 0 [some (vI x0), some (vI x1), some (vI x2)] [] (sh, I, L) (0, 0) ?_
  refine hK.1 1 [some (vI x0), some (vI x1), some (vI x2)] [vI x0] (sh, I, L) (0, 0) ?_
  refine hK.1 2 [some (vI x0), some (vI x1), some (vI x2)] [vI 4, vI x0] (sh, I, L) (0, 0) ?_
  refine hK.1 3 [some (vI x0), some (vI x1), some (vI x2)] [vI (x0 * 4)] (sh, I, L) (0, 0) ?_
  refine hK.1 4 [some (vI x0), some (vI x1), some (vI x2)] [vI x1, vI (x0 * 4)] (sh, I, L) (0, 0) ?_
  refine hK.1 5 [some (vI x0), some (vI x1), some (vI x2)] [vI ((x0 * 4) + x1)] (sh, I, L) (0, 0) ?_
  refine hK.1 6 [some (vI x0), some (vI x1), some (vI x2)] [vI 4, vI ((x0 * 4) + x1)] (sh, I, L) (0, 0) ?_
  refine hK.1 7 [some (vI x0), some (vI x1), some (vI x2)] [vI (((x0 * 4) + x1) * 4)] (sh, I, L) (0, 0) ?_
  refine hK.1 8 [some (vI x0), some (vI x1), some (vI x2)] [vI x2, vI (((x0 * 4) + x1) * 4)] (sh, I, L) (0, 0) ?_
  refine hK.1 9 [some (vI x0), some (vI x1), some (vI x2)] [vI ((((x0 * 4) + x1) * 4) + x2)] (sh, I, L) (0, 0) ?_
  exact And.intro ⟨by decide, by decide⟩ k
set_option maxRecDepth 4000 in
theorem B_X11_solved_0 {Q : oQ} {K : oK} (hK : oCl tb_X11_solved Q K) {sh : oS} {I : Nat → Nat → Int} {L : Nat → Nat → Int64} {x1 : Int} {x2 : Int} {x3 : Int} (k : T_X11_keptAt [vI x1, vI x2, vI x3] (sh, I, L) (fun r mm => K 6 [some (vR 0), some (vI x1), some (vI x2), some (vI x3), none] (r.toList ++ []) mm (0, 0))) : K 0 [some (vR 0), some (vI x1), some (vI x2), some (vI x3), none] [] (sh, I, L) (0, 0) := by
  refine hK.1 0 [some (vR 0), some (vI x1), some (vI x2), some (vI x3), none] [] (sh, I, L) (0, 0) ?_
  refine hK.1 1 [some (vR 0), some (vI x1), some (vI x2), some (vI x3), none] [vI x1] (sh, I, L) (0, 0) ?_
  refine hK.1 2 [some (vR 0), some (vI x1), some (vI x2), some (vI x3), none] [vI x2, vI x1] (sh, I, L) (0, 0) ?_
  refine hK.1 3 [some (vR 0), some (vI x1), some (vI x2), some (vI x3), none] [vI x3, vI x2, vI x1] (sh, I, L) (0, 0) ?_
  exact And.intro ⟨Nat.le_of_ble_eq_true rfl, Nat.le_of_ble_eq_true rfl, Nat.le_of_ble_eq_true rfl, Nat.le_of_ble_eq_true rfl⟩ k
set_option maxRecDepth 4000 in
theorem B_X11_solved_6 {Q : oQ} {K : oK} (hK : oCl tb_X11_solved Q K) {sh : oS} (hs : Sh sh) {I : Nat → Nat → Int} {L : Nat → Nat → Int64} {x1 : Int} {x2 : Int} {x3 : Int} {s0 : Int} (b14 : 0 ≤ s0 ∧ s0 < 128) (n16a : inR (I 41 (s0.toNat))) (kt : ¬ I 41 (s0.toNat) = (-1) → K 72 [none, none, none, none, some (vI s0)] [] (sh, I, L) (0, 0)) (kf : ¬ (¬ I 41 (s0.toNat) = (-1)) → K 19 [some (vR 0), some (vI x1), some (vI x2), some (vI x3), some (vI s0)] [] (sh, I, L) (0, 0)) : K 6 [some (vR 0), some (vI x1), some (vI x2), some (vI x3), none] [vI s0] (sh, I, L) (0, 0) := by
  refine hK.1 6 [some (vR 0), some (vI x1), some (vI x2), some (vI x3), none] [vI s0] (sh, I, L) (0, 0) ?_
  refine hK.1 8 [some (vR 0), some (vI x1), some (vI x2), some (vI x3), some (vI s0)] [] (sh, I, L) (0, 0) ?_
  refine hK.1 9 [some (vR 0), some (vI x1), some (vI x2), some (vI x3), some (vI s0)] [vR 0] (sh, I, L) (0, 0) ?_
  refine And.intro (mem1 (sk_0 hs)) (Exists.intro 41 (And.intro (sr_0_15 hs) ?_))
  refine hK.1 12 [some (vR 0), some (vI x1), some (vI x2), some (vI x3), some (vI s0)] [vR 41] (sh, I, L) (0, 0) ?_
  refine hK.1 14 [some (vR 0), some (vI x1), some (vI x2), some (vI x3), some (vI s0)] [vI s0, vR 41] (sh, I, L) (0, 0) ?_
  refine And.intro (And.intro (sk_41 hs) (ixL (sl_41 hs) b14)) ?_
  refine hK.1 15 [some (vR 0), some (vI x1), some (vI x2), some (vI x3), some (vI s0)] [vI (I 41 (s0.toNat))] (sh, I, L) (0, 0) ?_
  refine hK.1 16 [some (vR 0), some (vI x1), some (vI x2), some (vI x3), some (vI s0)] [vI (-1), vI (I 41 (s0.toNat))] (sh, I, L) (0, 0) ?_
  exact And.intro (And.intro n16a ⟨by decide, by decide⟩) (And.intro (fun h => hK.2 [false, false, false, false, true] _ _ _ _ _ (kt h)) (fun h => hK.2 [true, true, true, true, true] _ _ _ _ _ (kf h)))
set_option maxRecDepth 4000 in
theorem B_X11_solved_19 {Q : oQ} {K : oK} (hK : oCl tb_X11_solved Q K) {sh : oS} (hs : Sh sh) {I : Nat → Nat → Int} {L : Nat → Nat → Int64} {x1 : Int} {x2 : Int} {x3 : Int} {x4 : Int} (k : T_X11_pitch [vR 0, vI x1, vI x2] (sh, I, L) (fun r mm => K 25 [some (vR 0), none, some (vI x2), some (vI x3), some (vI x4)] (r.toList ++ []) mm (0, 0))) : K 19 [some (vR 0), some (vI x1), some (vI x2), some (vI x3), some (vI x4)] [] (sh, I, L) (0, 0) := by
  refine hK.1 19 [some (vR 0), some (vI x1), some (vI x2), some (vI x3), some (vI x4)] [] (sh, I, L) (0, 0) ?_
  refine hK.1 20 [some (vR 0), some (vI x1), some (vI x2), some (vI x3), some (vI x4)] [vR 0] (sh, I, L) (0, 0) ?_
  refine hK.1 21 [some (vR 0), some (vI x1), some (vI x2), some (vI x3), some (vI x4)] [vI x1, vR 0] (sh, I, L) (0, 0) ?_
  refine hK.2 [true, false, true, true, true] _ _ _ _ _ ?_
  refine hK.1 22 [some (vR 0), none, some (vI x2), some (vI x3), some (vI x4)] [vI x2, vI x1, vR 0] (sh, I, L) (0, 0) ?_
  exact And.intro ⟨(sk_0 hs), Nat.le_of_ble_eq_true rfl, Nat.le_of_ble_eq_true rfl, Nat.le_of_ble_eq_true rfl, Nat.le_of_ble_eq_true rfl⟩ k
set_option maxRecDepth 4000 in
theorem B_X11_solved_25 {Q : oQ} {K : oK} (hK : oCl tb_X11_solved Q K) {sh : oS} (hs : Sh sh) {I : Nat → Nat → Int} {L : Nat → Nat → Int64} {x2 : Int} {x3 : Int} {x4 : Int} {q38 : Nat} (b38 : 0 ≤ x2 ∧ x2 < 4) (r38 : sR sh 9 (x2.toNat) = some q38) (k : T_X2_feed [vR 24, vR 3, vR q38, vI x3, vI 0] (sh, I, L) (fun r mm => K 44 [some (vR 0), none, none, none, some (vI x4)] (r.toList ++ []) mm (0, 0))) : K 25 [some (vR 0), none, some (vI x2), some (vI x3), some (vI x4)] [] (sh, I, L) (0, 0) := by
  refine hK.1 25 [some (vR 0), none, some (vI x2), some (vI x3), some (vI x4)] [] (sh, I, L) (0, 0) ?_
  refine hK.1 26 [some (vR 0), none, some (vI x2), some (vI x3), some (vI x4)] [vR 0] (sh, I, L) (0, 0) ?_
  refine And.intro (mem1 (sk_0 hs)) (Exists.intro 24 (And.intro (sr_0_14 hs) ?_))
  refine hK.1 29 [some (vR 0), none, some (vI x2), some (vI x3), some (vI x4)] [vR 24] (sh, I, L) (0, 0) ?_
  refine hK.1 30 [some (vR 0), none, some (vI x2), some (vI x3), some (vI x4)] [vR 0, vR 24] (sh, I, L) (0, 0) ?_
  refine And.intro (mem1 (sk_0 hs)) (Exists.intro 3 (And.intro (sr_0_1 hs) ?_))
  refine hK.1 33 [some (vR 0), none, some (vI x2), some (vI x3), some (vI x4)] [vR 3, vR 24] (sh, I, L) (0, 0) ?_
  refine hK.1 34 [some (vR 0), none, some (vI x2), some (vI x3), some (vI x4)] [vR 0, vR 3, vR 24] (sh, I, L) (0, 0) ?_
  refine And.intro (mem1 (sk_0 hs)) (Exists.intro 9 (And.intro (sr_0_3 hs) ?_))
  refine hK.1 37 [some (vR 0), none, some (vI x2), some (vI x3), some (vI x4)] [vR 9, vR 3, vR 24] (sh, I, L) (0, 0) ?_
  refine hK.1 38 [some (vR 0), none, some (vI x2), some (vI x3), some (vI x4)] [vI x2, vR 9, vR 3, vR 24] (sh, I, L) (0, 0) ?_
  refine And.intro (And.intro (sk_9 hs) (ixL (sl_9 hs) b38)) (Exists.intro q38 (And.intro r38 ?_))
  refine hK.1 39 [some (vR 0), none, some (vI x2), some (vI x3), some (vI x4)] [vR q38, vR 3, vR 24] (sh, I, L) (0, 0) ?_
  refine hK.1 40 [some (vR 0), none, some (vI x2), some (vI x3), some (vI x4)] [vI x3, vR q38, vR 3, vR 24] (sh, I, L) (0, 0) ?_
  refine hK.2 [true, false, false, false, true] _ _ _ _ _ ?_
  refine hK.1 41 [some (vR 0), none, none, none, some (vI x4)] [vI 0, vI x3, vR q38, vR 3, vR 24] (sh, I, L) (0, 0) ?_
  exact And.intro ⟨(sk_24 hs), Nat.le_of_ble_eq_true rfl, Nat.le_of_ble_eq_true rfl, Nat.le_of_ble_eq_true rfl, Nat.le_of_ble_eq_true rfl⟩ k
set_option maxRecDepth 4000 in
theorem B_X11_solved_44 {Q : oQ} {K : oK} (hK : oCl tb_X11_solved Q K) {sh : oS} (hs : Sh sh) {I : Nat → Nat → Int} {L : Nat → Nat → Int64} {x4 : Int} (b57 : 0 ≤ x4 ∧ x4 < 128) (k : K 72 [none, none, none, none, some (vI x4)] [] (sh, (u2 (u2 I 41 (x4.toNat) (I 24 4)) 42 (x4.toNat) (I 24 5)), L) (0, 0)) : K 44 [some (vR 0), none, none, none, some (vI x4)] [] (sh, I, L) (0, 0) := by
  refine hK.1 44 [some (vR 0), none, none, none, some (vI x4)] [] (sh, I, L) (0, 0) ?_
  refine hK.1 45 [some (vR 0), none, none, none, some (vI x4)] [vR 0] (sh, I, L) (0, 0) ?_
  refine And.intro (mem1 (sk_0 hs)) (Exists.intro 41 (And.intro (sr_0_15 hs) ?_))
  refine hK.1 48 [some (vR 0), none, none, none, some (vI x4)] [vR 41] (sh, I, L) (0, 0) ?_
  refine hK.1 50 [some (vR 0), none, none, none, some (vI x4)] [vI x4, vR 41] (sh, I, L) (0, 0) ?_
  refine hK.1 51 [some (vR 0), none, none, none, some (vI x4)] [vR 0, vI x4, vR 41] (sh, I, L) (0, 0) ?_
  refine And.intro (mem1 (sk_0 hs)) (Exists.intro 24 (And.intro (sr_0_14 hs) ?_))
  refine hK.1 54 [some (vR 0), none, none, none, some (vI x4)] [vR 24, vI x4, vR 41] (sh, I, L) (0, 0) ?_
  refine And.intro (mem1 (sk_24 hs)) ?_
  refine hK.1 57 [some (vR 0), none, none, none, some (vI x4)] [vI (I 24 4), vI x4, vR 41] (sh, I, L) (0, 0) ?_
  refine And.intro (And.intro (sk_41 hs) (ixL (sl_41 hs) b57)) ?_
  refine hK.1 58 [some (vR 0), none, none, none, some (vI x4)] [] (sh, (u2 I 41 (x4.toNat) (I 24 4)), L) (0, 0) ?_
  refine hK.1 59 [some (vR 0), none, none, none, some (vI x4)] [vR 0] (sh, (u2 I 41 (x4.toNat) (I 24 4)), L) (0, 0) ?_
  refine And.intro (mem1 (sk_0 hs)) (Exists.intro 42 (And.intro (sr_0_16 hs) ?_))
  refine hK.1 62 [some (vR 0), none, none, none, some (vI x4)] [vR 42] (sh, (u2 I 41 (x4.toNat) (I 24 4)), L) (0, 0) ?_
  refine hK.1 64 [some (vR 0), none, none, none, some (vI x4)] [vI x4, vR 42] (sh, (u2 I 41 (x4.toNat) (I 24 4)), L) (0, 0) ?_
  refine hK.1 65 [some (vR 0), none, none, none, some (vI x4)] [vR 0, vI x4, vR 42] (sh, (u2 I 41 (x4.toNat) (I 24 4)), L) (0, 0) ?_
  refine And.intro (mem1 (sk_0 hs)) (Exists.intro 24 (And.intro (sr_0_14 hs) ?_))
  refine hK.1 68 [some (vR 0), none, none, none, some (vI x4)] [vR 24, vI x4, vR 42] (sh, (u2 I 41 (x4.toNat) (I 24 4)), L) (0, 0) ?_
  refine And.intro (mem1 (sk_24 hs)) ?_
  refine hK.1 71 [some (vR 0), none, none, none, some (vI x4)] [vI (I 24 5), vI x4, vR 42] (sh, (u2 I 41 (x4.toNat) (I 24 4)), L) (0, 0) ?_
  refine And.intro (And.intro (sk_42 hs) (ixL (sl_42 hs) b57)) ?_
  refine hK.2 [false, false, false, false, true] _ _ _ _ _ ?_
  exact k
set_option maxRecDepth 4000 in
theorem B_X11_solved_72 {Q : oQ} {K : oK} (hK : oCl tb_X11_solved Q K) {sh : oS} {I : Nat → Nat → Int} {L : Nat → Nat → Int64} {x4 : Int} (k : Q (some (vI x4)) (sh, I, L)) : K 72 [none, none, none, none, some (vI x4)] [] (sh, I, L) (0, 0) := by
  refine hK.1 72 [none, none, none, none, some (vI x4)] [] (sh, I, L) (0, 0) ?_
  refine hK.1 74 [none, none, none, none, some (vI x4)] [vI x4] (sh, I, L) (0, 0) ?_
  exact And.intro ⟨by decide, by decide⟩ k
set_option maxRecDepth 4000 in
theorem B_X11_hungryIn_0 {Q : oQ} {K : oK} (hK : oCl tb_X11_hungryIn Q K) {sh : oS} (hs : Sh sh) {I : Nat → Nat → Int} {L : Nat → Nat → Int64} {h1 : Nat} {x2 : Int} {x3 : Int} {x4 : Int} {q5 : Nat} {q16 : Nat} (b5 : 0 ≤ x2 ∧ x2 < 8) (r5 : sR sh 10 (x2.toNat) = some q5) (b16 : 0 ≤ x3 ∧ x3 < 4) (r16 : sR sh 9 (x3.toNat) = some q16) (k0 : sK sh q5 = 0 → T_X0_pitch [vR q5, vR 24, vR h1, vR q16, vI x4] (sh, I, L) (fun r mm => K 22 [some (vR 0), some (vR h1), none, some (vI x3), none] (r.toList ++ []) mm (0, 0))) (k1 : sK sh q5 = 1 → T_X1_pitch [vR q5, vR 24, vR h1, vR q16, vI x4] (sh, I, L) (fun r mm => K 22 [some (vR 0), some (vR h1), none, some (vI x3), none] (r.toList ++ []) mm (0, 0))) (k3 : sK sh q5 = 3 → T_X3_pitch [vR q5, vR 24, vR h1, vR q16, vI x4] (sh, I, L) (fun r mm => K 22 [some (vR 0), some (vR h1), none, some (vI x3), none] (r.toList ++ []) mm (0, 0))) (k5 : sK sh q5 = 5 → T_X3_pitch [vR q5, vR 24, vR h1, vR q16, vI x4] (sh, I, L) (fun r mm => K 22 [some (vR 0), some (vR h1), none, some (vI x3), none] (r.toList ++ []) mm (0, 0))) (k10 : sK sh q5 = 10 → T_X10_pitch [vR q5, vR 24, vR h1, vR q16, vI x4] (sh, I, L) (fun r mm => K 22 [some (vR 0), some (vR h1), none, some (vI x3), none] (r.toList ++ []) mm (0, 0))) (kb : sK sh q5 ∈ [0, 1, 3, 5, 10]) : K 0 [some (vR 0), some (vR h1), some (vI x2), some (vI x3), some (vI x4)] [] (sh, I, L) (0, 0) := by
  refine hK.1 0 [some (vR 0), some (vR h1), some (vI x2), some (vI x3), some (vI x4)] [] (sh, I, L) (0, 0) ?_
  refine hK.1 1 [some (vR 0), some (vR h1), some (vI x2), some (vI x3), some (vI x4)] [vR 0] (sh, I, L) (0, 0) ?_
  refine And.intro (mem1 (sk_0 hs)) (Exists.intro 10 (And.intro (sr_0_4 hs) ?_))
  refine hK.1 4 [some (vR 0), some (vR h1), some (vI x2), some (vI x3), some (vI x4)] [vR 10] (sh, I, L) (0, 0) ?_
  refine hK.1 5 [some (vR 0), some (vR h1), some (vI x2), some (vI x3), some (vI x4)] [vI x2, vR 10] (sh, I, L) (0, 0) ?_
  refine And.intro (And.intro (sk_10 hs) (ixL (sl_10 hs) b5)) (Exists.intro q5 (And.intro r5 ?_))
  refine hK.1 6 [some (vR 0), some (vR h1), some (vI x2), some (vI x3), some (vI x4)] [vR q5] (sh, I, L) (0, 0) ?_
  refine hK.1 7 [some (vR 0), some (vR h1), some (vI x2), some (vI x3), some (vI x4)] [vR 0, vR q5] (sh, I, L) (0, 0) ?_
  refine And.intro (mem1 (sk_0 hs)) (Exists.intro 24 (And.intro (sr_0_14 hs) ?_))
  refine hK.1 10 [some (vR 0), some (vR h1), some (vI x2), some (vI x3), some (vI x4)] [vR 24, vR q5] (sh, I, L) (0, 0) ?_
  refine hK.1 11 [some (vR 0), some (vR h1), some (vI x2), some (vI x3), some (vI x4)] [vR h1, vR 24, vR q5] (sh, I, L) (0, 0) ?_
  refine hK.1 12 [some (vR 0), some (vR h1), some (vI x2), some (vI x3), some (vI x4)] [vR 0, vR h1, vR 24, vR q5] (sh, I, L) (0, 0) ?_
  refine And.intro (mem1 (sk_0 hs)) (Exists.intro 9 (And.intro (sr_0_3 hs) ?_))
  refine hK.1 15 [some (vR 0), some (vR h1), some (vI x2), some (vI x3), some (vI x4)] [vR 9, vR h1, vR 24, vR q5] (sh, I, L) (0, 0) ?_
  refine hK.1 16 [some (vR 0), some (vR h1), some (vI x2), some (vI x3), some (vI x4)] [vI x3, vR 9, vR h1, vR 24, vR q5] (sh, I, L) (0, 0) ?_
  refine And.intro (And.intro (sk_9 hs) (ixL (sl_9 hs) b16)) (Exists.intro q16 (And.intro r16 ?_))
  refine hK.1 17 [some (vR 0), some (vR h1), some (vI x2), some (vI x3), some (vI x4)] [vR q16, vR h1, vR 24, vR q5] (sh, I, L) (0, 0) ?_
  refine hK.2 [true, true, false, true, false] _ _ _ _ _ ?_
  refine hK.1 19 [some (vR 0), some (vR h1), none, some (vI x3), none] [vI x4, vR q16, vR h1, vR 24, vR q5] (sh, I, L) (0, 0) ?_
  refine And.intro ⟨Nat.le_of_ble_eq_true rfl, Nat.le_of_ble_eq_true rfl, Nat.le_of_ble_eq_true rfl, Nat.le_of_ble_eq_true rfl⟩ ?_
  simp only [List.mem_cons, List.not_mem_nil, or_false] at kb
  rcases kb with kb | kb | kb | kb | kb
  · exact ⟨(0, T_X0_pitch), List.mem_of_getElem? (i := 0) rfl, kb, k0 kb⟩
  · exact ⟨(1, T_X1_pitch), List.mem_of_getElem? (i := 1) rfl, kb, k1 kb⟩
  · exact ⟨(3, T_X3_pitch), List.mem_of_getElem? (i := 2) rfl, kb, k3 kb⟩
  · exact ⟨(5, T_X3_pitch), List.mem_of_getElem? (i := 3) rfl, kb, k5 kb⟩
  · exact ⟨(10, T_X10_pitch), List.mem_of_getElem? (i := 4) rfl, kb, k10 kb⟩
set_option maxRecDepth 4000 in
theorem B_X11_hungryIn_22 {Q : oQ} {K : oK} (hK : oCl tb_X11_hungryIn Q K) {sh : oS} (hs : Sh sh) {I : Nat → Nat → Int} {L : Nat → Nat → Int64} {h1 : Nat} {x3 : Int} {q32 : Nat} {q38 : Nat} {q38e q38p q38t : Nat} (b32 : 0 ≤ x3 ∧ x3 < 4) (r32 : sR sh 9 (x3.toNat) = some q32) (r38 : sR sh 9 (x3.toNat) = some q38) (k : T_X6_wayOn [vR q38] (sh, I, L) (fun r mm => K 42 [some (vR 0), none, none, none, none] (r.toList ++ [vR q32, vR h1, vR 24]) mm (0, 0))) (Aq38 : MarchAt sh q38 q38e q38p q38t) : K 22 [some (vR 0), some (vR h1), none, some (vI x3), none] [] (sh, I, L) (0, 0) := by
  refine hK.1 22 [some (vR 0), some (vR h1), none, some (vI x3), none] [] (sh, I, L) (0, 0) ?_
  refine hK.1 23 [some (vR 0), some (vR h1), none, some (vI x3), none] [vR 0] (sh, I, L) (0, 0) ?_
  refine And.intro (mem1 (sk_0 hs)) (Exists.intro 24 (And.intro (sr_0_14 hs) ?_))
  refine hK.1 26 [some (vR 0), some (vR h1), none, some (vI x3), none] [vR 24] (sh, I, L) (0, 0) ?_
  refine hK.1 27 [some (vR 0), some (vR h1), none, some (vI x3), none] [vR h1, vR 24] (sh, I, L) (0, 0) ?_
  refine hK.1 28 [some (vR 0), some (vR h1), none, some (vI x3), none] [vR 0, vR h1, vR 24] (sh, I, L) (0, 0) ?_
  refine And.intro (mem1 (sk_0 hs)) (Exists.intro 9 (And.intro (sr_0_3 hs) ?_))
  refine hK.1 31 [some (vR 0), some (vR h1), none, some (vI x3), none] [vR 9, vR h1, vR 24] (sh, I, L) (0, 0) ?_
  refine hK.1 32 [some (vR 0), some (vR h1), none, some (vI x3), none] [vI x3, vR 9, vR h1, vR 24] (sh, I, L) (0, 0) ?_
  refine And.intro (And.intro (sk_9 hs) (ixL (sl_9 hs) b32)) (Exists.intro q32 (And.intro r32 ?_))
  refine hK.1 33 [some (vR 0), some (vR h1), none, some (vI x3), none] [vR q32, vR h1, vR 24] (sh, I, L) (0, 0) ?_
  refine hK.1 34 [some (vR 0), some (vR h1), none, some (vI x3), none] [vR 0, vR q32, vR h1, vR 24] (sh, I, L) (0, 0) ?_
  refine And.intro (mem1 (sk_0 hs)) (Exists.intro 9 (And.intro (sr_0_3 hs) ?_))
  refine hK.1 37 [some (vR 0), some (vR h1), none, some (vI x3), none] [vR 9, vR q32, vR h1, vR 24] (sh, I, L) (0, 0) ?_
  refine hK.1 38 [some (vR 0), some (vR h1), none, some (vI x3), none] [vI x3, vR 9, vR q32, vR h1, vR 24] (sh, I, L) (0, 0) ?_
  refine And.intro (And.intro (sk_9 hs) (ixL (sl_9 hs) b32)) (Exists.intro q38 (And.intro r38 ?_))
  refine hK.2 [true, false, false, false, false] _ _ _ _ _ ?_
  refine hK.1 39 [some (vR 0), none, none, none, none] [vR q38, vR q32, vR h1, vR 24] (sh, I, L) (0, 0) ?_
  exact And.intro ⟨Aq38.1, Nat.le_of_ble_eq_true rfl, Nat.le_of_ble_eq_true rfl, Nat.le_of_ble_eq_true rfl, Nat.le_of_ble_eq_true rfl⟩ k
set_option maxRecDepth 4000 in
theorem B_X11_hungryIn_42 {Q : oQ} {K : oK} (hK : oCl tb_X11_hungryIn Q K) {sh : oS} (hs : Sh sh) {I : Nat → Nat → Int} {L : Nat → Nat → Int64} {s1 : Nat} {s2 : Nat} {s3 : Int} (k : T_X2_feed [vR 24, vR s1, vR s2, vI s3, vI 0] (sh, I, L) (fun r mm => K 46 [some (vR 0), none, none, none, none] (r.toList ++ []) mm (0, 0))) : K 42 [some (vR 0), none, none, none, none] [vI s3, vR s2, vR s1, vR 24] (sh, I, L) (0, 0) := by
  refine hK.1 42 [some (vR 0), none, none, none, none] [vI s3, vR s2, vR s1, vR 24] (sh, I, L) (0, 0) ?_
  refine hK.1 43 [some (vR 0), none, none, none, none] [vI 0, vI s3, vR s2, vR s1, vR 24] (sh, I, L) (0, 0) ?_
  exact And.intro ⟨(sk_24 hs), Nat.le_of_ble_eq_true rfl, Nat.le_of_ble_eq_true rfl, Nat.le_of_ble_eq_true rfl, Nat.le_of_ble_eq_true rfl⟩ k
set_option maxRecDepth 4000 in
theorem B_X11_hungryIn_46 {Q : oQ} {K : oK} (hK : oCl tb_X11_hungryIn Q K) {sh : oS} (hs : Sh sh) {I : Nat → Nat → Int} {L : Nat → Nat → Int64}  (k : Q (some (vI (I 24 4))) (sh, I, L)) : K 46 [some (vR 0), none, none, none, none] [] (sh, I, L) (0, 0) := by
  refine hK.1 46 [some (vR 0), none, none, none, none] [] (sh, I, L) (0, 0) ?_
  refine hK.1 47 [some (vR 0), none, none, none, none] [vR 0] (sh, I, L) (0, 0) ?_
  refine And.intro (mem1 (sk_0 hs)) (Exists.intro 24 (And.intro (sr_0_14 hs) ?_))
  refine hK.1 50 [some (vR 0), none, none, none, none] [vR 24] (sh, I, L) (0, 0) ?_
  refine And.intro (mem1 (sk_24 hs)) ?_
  refine hK.1 53 [some (vR 0), none, none, none, none] [vI (I 24 4)] (sh, I, L) (0, 0) ?_
  exact And.intro ⟨by decide, by decide⟩ k
set_option maxRecDepth 4000 in
theorem B_X11_burnt_0 {Q : oQ} {K : oK} (hK : oCl tb_X11_burnt Q K) {sh : oS} (hs : Sh sh) {I : Nat → Nat → Int} {L : Nat → Nat → Int64} {x1 : Int} {x2 : Int} {x3 : Int} (k : T_X11_refusal [vR 0, vI x1, vI x2] (sh, I, L) (fun r mm => K 6 [some (vR 0), some (vI x1), some (vI x2), some (vI x3), none, none, none, none, none, none] (r.toList ++ []) mm (0, 0))) : K 0 [some (vR 0), some (vI x1), some (vI x2), some (vI x3), none, none, none, none, none, none] [] (sh, I, L) (0, 0) := by
  refine hK.1 0 [some (vR 0), some (vI x1), some (vI x2), some (vI x3), none, none, none, none, none, none] [] (sh, I, L) (0, 0) ?_
  refine hK.1 1 [some (vR 0), some (vI x1), some (vI x2), some (vI x3), none, none, none, none, none, none] [vR 0] (sh, I, L) (0, 0) ?_
  refine hK.1 2 [some (vR 0), some (vI x1), some (vI x2), some (vI x3), none, none, none, none, none, none] [vI x1, vR 0] (sh, I, L) (0, 0) ?_
  refine hK.1 3 [some (vR 0), some (vI x1), some (vI x2), some (vI x3), none, none, none, none, none, none] [vI x2, vI x1, vR 0] (sh, I, L) (0, 0) ?_
  exact And.intro ⟨(sk_0 hs), Nat.le_of_ble_eq_true rfl, Nat.le_of_ble_eq_true rfl, Nat.le_of_ble_eq_true rfl, Nat.le_of_ble_eq_true rfl⟩ k
set_option maxRecDepth 4000 in
theorem B_X11_burnt_6 {Q : oQ} {K : oK} (hK : oCl tb_X11_burnt Q K) {sh : oS} {I : Nat → Nat → Int} {L : Nat → Nat → Int64} {x1 : Int} {x2 : Int} {x3 : Int} {s0 : Int} (n10 : inR s0) (kt : s0 = 0 → K 16 [some (vR 0), some (vI x1), some (vI x2), some (vI x3), none, none, none, none, none, none] [] (sh, I, L) (0, 0)) (kf : ¬ (s0 = 0) → K 13 [none, none, none, none, some (vI s0), none, none, none, none, none] [] (sh, I, L) (0, 0)) : K 6 [some (vR 0), some (vI x1), some (vI x2), some (vI x3), none, none, none, none, none, none] [vI s0] (sh, I, L) (0, 0) := by
  refine hK.1 6 [some (vR 0), some (vI x1), some (vI x2), some (vI x3), none, none, none, none, none, none] [vI s0] (sh, I, L) (0, 0) ?_
  refine hK.1 8 [some (vR 0), some (vI x1), some (vI x2), some (vI x3), some (vI s0), none, none, none, none, none] [] (sh, I, L) (0, 0) ?_
  refine hK.1 10 [some (vR 0), some (vI x1), some (vI x2), some (vI x3), some (vI s0), none, none, none, none, none] [vI s0] (sh, I, L) (0, 0) ?_
  exact And.intro (n10) (And.intro (fun h => hK.2 [true, true, true, true, false, false, false, false, false, false] _ _ _ _ _ (kt h)) (fun h => hK.2 [false, false, false, false, true, false, false, false, false, false] _ _ _ _ _ (kf h)))
set_option maxRecDepth 4000 in
theorem B_X11_burnt_13 {Q : oQ} {K : oK} (hK : oCl tb_X11_burnt Q K) {sh : oS} {I : Nat → Nat → Int} {L : Nat → Nat → Int64} {x4 : Int} (k : Q (some (vI x4)) (sh, I, L)) : K 13 [none, none, none, none, some (vI x4), none, none, none, none, none] [] (sh, I, L) (0, 0) := by
  refine hK.1 13 [none, none, none, none, some (vI x4), none, none, none, none, none] [] (sh, I, L) (0, 0) ?_
  refine hK.1 15 [none, none, none, none, some (vI x4), none, none, none, none, none] [vI x4] (sh, I, L) (0, 0) ?_
  exact And.intro ⟨by decide, by decide⟩ k
set_option maxRecDepth 4000 in
theorem B_X11_burnt_16 {Q : oQ} {K : oK} (hK : oCl tb_X11_burnt Q K) {sh : oS} {I : Nat → Nat → Int} {L : Nat → Nat → Int64} {x1 : Int} {x2 : Int} {x3 : Int} (n17 : inR x3) (kt : x3 < 0 → K 25 [none, none, none, none, none, none, none, none, none, none] [] (sh, I, L) (0, 0)) (kf : ¬ (x3 < 0) → K 20 [some (vR 0), some (vI x1), some (vI x2), some (vI x3), none, none, none, none, none, none] [] (sh, I, L) (0, 0)) : K 16 [some (vR 0), some (vI x1), some (vI x2), some (vI x3), none, none, none, none, none, none] [] (sh, I, L) (0, 0) := by
  refine hK.1 16 [some (vR 0), some (vI x1), some (vI x2), some (vI x3), none, none, none, none, none, none] [] (sh, I, L) (0, 0) ?_
  refine hK.1 17 [some (vR 0), some (vI x1), some (vI x2), some (vI x3), none, none, none, none, none, none] [vI x3] (sh, I, L) (0, 0) ?_
  exact And.intro (n17) (And.intro (fun h => hK.2 [false, false, false, false, false, false, false, false, false, false] _ _ _ _ _ (kt h)) (fun h => hK.2 [true, true, true, true, false, false, false, false, false, false] _ _ _ _ _ (kf h)))
set_option maxRecDepth 4000 in
theorem B_X11_burnt_20 {Q : oQ} {K : oK} (hK : oCl tb_X11_burnt Q K) {sh : oS} {I : Nat → Nat → Int} {L : Nat → Nat → Int64} {x1 : Int} {x2 : Int} {x3 : Int} (n22a : inR x3) (kt : x3 ≤ 1 → K 28 [some (vR 0), some (vI x1), some (vI x2), some (vI x3), none, none, none, none, none, none] [] (sh, I, L) (0, 0)) (kf : ¬ (x3 ≤ 1) → K 25 [none, none, none, none, none, none, none, none, none, none] [] (sh, I, L) (0, 0)) : K 20 [some (vR 0), some (vI x1), some (vI x2), some (vI x3), none, none, none, none, none, none] [] (sh, I, L) (0, 0) := by
  refine hK.1 20 [some (vR 0), some (vI x1), some (vI x2), some (vI x3), none, none, none, none, none, none] [] (sh, I, L) (0, 0) ?_
  refine hK.1 21 [some (vR 0), some (vI x1), some (vI x2), some (vI x3), none, none, none, none, none, none] [vI x3] (sh, I, L) (0, 0) ?_
  refine hK.1 22 [some (vR 0), some (vI x1), some (vI x2), some (vI x3), none, none, none, none, none, none] [vI 1, vI x3] (sh, I, L) (0, 0) ?_
  exact And.intro (And.intro n22a ⟨by decide, by decide⟩) (And.intro (fun h => hK.2 [true, true, true, true, false, false, false, false, false, false] _ _ _ _ _ (kt h)) (fun h => hK.2 [false, false, false, false, false, false, false, false, false, false] _ _ _ _ _ (kf h)))
set_option maxRecDepth 4000 in
theorem B_X11_burnt_25 {Q : oQ} {K : oK} (hK : oCl tb_X11_burnt Q K) {sh : oS} {I : Nat → Nat → Int} {L : Nat → Nat → Int64}  (k : Q (some (vI (-102))) (sh, I, L)) : K 25 [none, none, none, none, none, none, none, none, none, none] [] (sh, I, L) (0, 0) := by
  refine hK.1 25 [none, none, none, none, none, none, none, none, none, none] [] (sh, I, L) (0, 0) ?_
  refine hK.1 27 [none, none, none, none, none, none, none, none, none, none] [vI (-102)] (sh, I, L) (0, 0) ?_
  exact And.intro ⟨by decide, by decide⟩ k
set_option maxRecDepth 4000 in
theorem B_X11_burnt_28 {Q : oQ} {K : oK} (hK : oCl tb_X11_burnt Q K) {sh : oS} (hs : Sh sh) {I : Nat → Nat → Int} {L : Nat → Nat → Int64} {x1 : Int} {x2 : Int} {x3 : Int} (n34a : inR (I 0 11)) (kt : I 0 11 < 30 → K 40 [some (vR 0), some (vI x1), some (vI x2), some (vI x3), none, none, none, none, none, none] [] (sh, I, L) (0, 0)) (kf : ¬ (I 0 11 < 30) → K 37 [none, none, none, none, none, none, none, none, none, none] [] (sh, I, L) (0, 0)) : K 28 [some (vR 0), some (vI x1), some (vI x2), some (vI x3), none, none, none, none, none, none] [] (sh, I, L) (0, 0) := by
  refine hK.1 28 [some (vR 0), some (vI x1), some (vI x2), some (vI x3), none, none, none, none, none, none] [] (sh, I, L) (0, 0) ?_
  refine hK.1 29 [some (vR 0), some (vI x1), some (vI x2), some (vI x3), none, none, none, none, none, none] [vR 0] (sh, I, L) (0, 0) ?_
  refine And.intro (mem1 (sk_0 hs)) ?_
  refine hK.1 32 [some (vR 0), some (vI x1), some (vI x2), some (vI x3), none, none, none, none, none, none] [vI (I 0 11)] (sh, I, L) (0, 0) ?_
  refine hK.1 34 [some (vR 0), some (vI x1), some (vI x2), some (vI x3), none, none, none, none, none, none] [vI 30, vI (I 0 11)] (sh, I, L) (0, 0) ?_
  exact And.intro (And.intro n34a ⟨by decide, by decide⟩) (And.intro (fun h => hK.2 [true, true, true, true, false, false, false, false, false, false] _ _ _ _ _ (kt h)) (fun h => hK.2 [false, false, false, false, false, false, false, false, false, false] _ _ _ _ _ (kf h)))
set_option maxRecDepth 4000 in
theorem B_X11_burnt_37 {Q : oQ} {K : oK} (hK : oCl tb_X11_burnt Q K) {sh : oS} {I : Nat → Nat → Int} {L : Nat → Nat → Int64}  (k : Q (some (vI (-103))) (sh, I, L)) : K 37 [none, none, none, none, none, none, none, none, none, none] [] (sh, I, L) (0, 0) := by
  refine hK.1 37 [none, none, none, none, none, none, none, none, none, none] [] (sh, I, L) (0, 0) ?_
  refine hK.1 39 [none, none, none, none, none, none, none, none, none, none] [vI (-103)] (sh, I, L) (0, 0) ?_
  exact And.intro ⟨by decide, by decide⟩ k
set_option maxRecDepth 4000 in
theorem B_X11_burnt_40 {Q : oQ} {K : oK} (hK : oCl tb_X11_burnt Q K) {sh : oS} (hs : Sh sh) {I : Nat → Nat → Int} {L : Nat → Nat → Int64} {x1 : Int} {x2 : Int} {x3 : Int} {q62 : Nat} {q62e q62p q62t : Nat} (b62 : 0 ≤ x2 ∧ x2 < 4) (r62 : sR sh 9 (x2.toNat) = some q62) (k : T_X6_wayOn [vR q62] (sh, (u2 I 0 11 ((I 0 11) + 1)), L) (fun r mm => K 66 [some (vR 0), some (vI x1), some (vI x2), some (vI x3), none, none, none, none, none, none] (r.toList ++ [vI x2, vI x1, vR 0, vR 41]) mm (0, 0))) (Aq62 : MarchAt sh q62 q62e q62p q62t) : K 40 [some (vR 0), some (vI x1), some (vI x2), some (vI x3), none, none, none, none, none, none] [] (sh, I, L) (0, 0) := by
  refine hK.1 40 [some (vR 0), some (vI x1), some (vI x2), some (vI x3), none, none, none, none, none, none] [] (sh, I, L) (0, 0) ?_
  refine hK.1 41 [some (vR 0), some (vI x1), some (vI x2), some (vI x3), none, none, none, none, none, none] [vR 0] (sh, I, L) (0, 0) ?_
  refine hK.1 42 [some (vR 0), some (vI x1), some (vI x2), some (vI x3), none, none, none, none, none, none] [vR 0, vR 0] (sh, I, L) (0, 0) ?_
  refine And.intro (mem1 (sk_0 hs)) ?_
  refine hK.1 45 [some (vR 0), some (vI x1), some (vI x2), some (vI x3), none, none, none, none, none, none] [vI (I 0 11), vR 0] (sh, I, L) (0, 0) ?_
  refine hK.1 46 [some (vR 0), some (vI x1), some (vI x2), some (vI x3), none, none, none, none, none, none] [vI 1, vI (I 0 11), vR 0] (sh, I, L) (0, 0) ?_
  refine hK.1 47 [some (vR 0), some (vI x1), some (vI x2), some (vI x3), none, none, none, none, none, none] [vI ((I 0 11) + 1), vR 0] (sh, I, L) (0, 0) ?_
  refine And.intro (mem1 (sk_0 hs)) ?_
  refine hK.1 50 [some (vR 0), some (vI x1), some (vI x2), some (vI x3), none, none, none, none, none, none] [] (sh, (u2 I 0 11 ((I 0 11) + 1)), L) (0, 0) ?_
  refine hK.1 51 [some (vR 0), some (vI x1), some (vI x2), some (vI x3), none, none, none, none, none, none] [vR 0] (sh, (u2 I 0 11 ((I 0 11) + 1)), L) (0, 0) ?_
  refine And.intro (mem1 (sk_0 hs)) (Exists.intro 41 (And.intro (sr_0_15 hs) ?_))
  refine hK.1 54 [some (vR 0), some (vI x1), some (vI x2), some (vI x3), none, none, none, none, none, none] [vR 41] (sh, (u2 I 0 11 ((I 0 11) + 1)), L) (0, 0) ?_
  refine hK.1 55 [some (vR 0), some (vI x1), some (vI x2), some (vI x3), none, none, none, none, none, none] [vR 0, vR 41] (sh, (u2 I 0 11 ((I 0 11) + 1)), L) (0, 0) ?_
  refine hK.1 56 [some (vR 0), some (vI x1), some (vI x2), some (vI x3), none, none, none, none, none, none] [vI x1, vR 0, vR 41] (sh, (u2 I 0 11 ((I 0 11) + 1)), L) (0, 0) ?_
  refine hK.1 57 [some (vR 0), some (vI x1), some (vI x2), some (vI x3), none, none, none, none, none, none] [vI x2, vI x1, vR 0, vR 41] (sh, (u2 I 0 11 ((I 0 11) + 1)), L) (0, 0) ?_
  refine hK.1 58 [some (vR 0), some (vI x1), some (vI x2), some (vI x3), none, none, none, none, none, none] [vR 0, vI x2, vI x1, vR 0, vR 41] (sh, (u2 I 0 11 ((I 0 11) + 1)), L) (0, 0) ?_
  refine And.intro (mem1 (sk_0 hs)) (Exists.intro 9 (And.intro (sr_0_3 hs) ?_))
  refine hK.1 61 [some (vR 0), some (vI x1), some (vI x2), some (vI x3), none, none, none, none, none, none] [vR 9, vI x2, vI x1, vR 0, vR 41] (sh, (u2 I 0 11 ((I 0 11) + 1)), L) (0, 0) ?_
  refine hK.1 62 [some (vR 0), some (vI x1), some (vI x2), some (vI x3), none, none, none, none, none, none] [vI x2, vR 9, vI x2, vI x1, vR 0, vR 41] (sh, (u2 I 0 11 ((I 0 11) + 1)), L) (0, 0) ?_
  refine And.intro (And.intro (sk_9 hs) (ixL (sl_9 hs) b62)) (Exists.intro q62 (And.intro r62 ?_))
  refine hK.1 63 [some (vR 0), some (vI x1), some (vI x2), some (vI x3), none, none, none, none, none, none] [vR q62, vI x2, vI x1, vR 0, vR 41] (sh, (u2 I 0 11 ((I 0 11) + 1)), L) (0, 0) ?_
  exact And.intro ⟨Aq62.1, Nat.le_of_ble_eq_true rfl, Nat.le_of_ble_eq_true rfl, Nat.le_of_ble_eq_true rfl, Nat.le_of_ble_eq_true rfl⟩ k
set_option maxRecDepth 4000 in
theorem B_X11_burnt_66 {Q : oQ} {K : oK} (hK : oCl tb_X11_burnt Q K) {sh : oS} (hs : Sh sh) {I : Nat → Nat → Int} {L : Nat → Nat → Int64} {x1 : Int} {x2 : Int} {x3 : Int} {s2 : Int} {s3 : Int} {s4 : Int} (k : T_X11_solved [vR 0, vI s2, vI s3, vI s4] (sh, I, L) (fun r mm => K 69 [some (vR 0), some (vI x1), some (vI x2), some (vI x3), none, none, none, none, none, none] (r.toList ++ [vR 41]) mm (0, 0))) : K 66 [some (vR 0), some (vI x1), some (vI x2), some (vI x3), none, none, none, none, none, none] [vI s4, vI s3, vI s2, vR 0, vR 41] (sh, I, L) (0, 0) := by
  refine hK.1 66 [some (vR 0), some (vI x1), some (vI x2), some (vI x3), none, none, none, none, none, none] [vI s4, vI s3, vI s2, vR 0, vR 41] (sh, I, L) (0, 0) ?_
  exact And.intro ⟨(sk_0 hs), Nat.le_of_ble_eq_true rfl, Nat.le_of_ble_eq_true rfl, Nat.le_of_ble_eq_true rfl, Nat.le_of_ble_eq_true rfl⟩ k
set_option maxRecDepth 4000 in
theorem B_X11_burnt_69 {Q : oQ} {K : oK} (hK : oCl tb_X11_burnt Q K) {sh : oS} (hs : Sh sh) {I : Nat → Nat → Int} {L : Nat → Nat → Int64} {x1 : Int} {x2 : Int} {x3 : Int} {s1 : Int} (b69 : 0 ≤ s1 ∧ s1 < 128) (k : K 81 [some (vR 0), some (vI x1), some (vI x2), some (vI x3), none, some (vI (I 41 (s1.toNat))), some (vI 1), some (vI 0), some (vI 1), none] [] (sh, I, L) (0, 0)) : K 69 [some (vR 0), some (vI x1), some (vI x2), some (vI x3), none, none, none, none, none, none] [vI s1, vR 41] (sh, I, L) (0, 0) := by
  refine hK.1 69 [some (vR 0), some (vI x1), some (vI x2), some (vI x3), none, none, none, none, none, none] [vI s1, vR 41] (sh, I, L) (0, 0) ?_
  refine And.intro (And.intro (sk_41 hs) (ixL (sl_41 hs) b69)) ?_
  refine hK.1 70 [some (vR 0), some (vI x1), some (vI x2), some (vI x3), none, none, none, none, none, none] [vI (I 41 (s1.toNat))] (sh, I, L) (0, 0) ?_
  refine hK.1 72 [some (vR 0), some (vI x1), some (vI x2), some (vI x3), none, some (vI (I 41 (s1.toNat))), none, none, none, none] [] (sh, I, L) (0, 0) ?_
  refine hK.1 73 [some (vR 0), some (vI x1), some (vI x2), some (vI x3), none, some (vI (I 41 (s1.toNat))), none, none, none, none] [vI 1] (sh, I, L) (0, 0) ?_
  refine hK.1 75 [some (vR 0), some (vI x1), some (vI x2), some (vI x3), none, some (vI (I 41 (s1.toNat))), some (vI 1), none, none, none] [] (sh, I, L) (0, 0) ?_
  refine hK.1 76 [some (vR 0), some (vI x1), some (vI x2), some (vI x3), none, some (vI (I 41 (s1.toNat))), some (vI 1), none, none, none] [vI 0] (sh, I, L) (0, 0) ?_
  refine hK.1 78 [some (vR 0), some (vI x1), some (vI x2), some (vI x3), none, some (vI (I 41 (s1.toNat))), some (vI 1), some (vI 0), none, none] [] (sh, I, L) (0, 0) ?_
  refine hK.1 79 [some (vR 0), some (vI x1), some (vI x2), some (vI x3), none, some (vI (I 41 (s1.toNat))), some (vI 1), some (vI 0), none, none] [vI 1] (sh, I, L) (0, 0) ?_
  exact k
set_option maxRecDepth 4000 in
theorem B_X11_burnt_81 {Q : oQ} {K : oK} (hK : oCl tb_X11_burnt Q K) {sh : oS} (hs : Sh sh) {I : Nat → Nat → Int} {L : Nat → Nat → Int64} {x1 : Int} {x2 : Int} {x3 : Int} {x5 : Int} {x6 : Int} {x7 : Int} {x8 : Int} (n90a : inR x8) (n90b : inR (I 3 0)) (kt : I 3 0 ≤ x8 → K 176 [none, none, none, some (vI x3), none, none, some (vI x6), some (vI x7), none, none] [] (sh, I, L) (0, 0)) (kf : ¬ (I 3 0 ≤ x8) → K 93 [some (vR 0), some (vI x1), some (vI x2), some (vI x3), none, some (vI x5), some (vI x6), some (vI x7), some (vI x8), none] [] (sh, I, L) (0, 0)) : K 81 [some (vR 0), some (vI x1), some (vI x2), some (vI x3), none, some (vI x5), some (vI x6), some (vI x7), some (vI x8), none] [] (sh, I, L) (0, 0) := by
  refine hK.1 81 [some (vR 0), some (vI x1), some (vI x2), some (vI x3), none, some (vI x5), some (vI x6), some (vI x7), some (vI x8), none] [] (sh, I, L) (0, 0) ?_
  refine hK.1 83 [some (vR 0), some (vI x1), some (vI x2), some (vI x3), none, some (vI x5), some (vI x6), some (vI x7), some (vI x8), none] [vI x8] (sh, I, L) (0, 0) ?_
  refine hK.1 84 [some (vR 0), some (vI x1), some (vI x2), some (vI x3), none, some (vI x5), some (vI x6), some (vI x7), some (vI x8), none] [vR 0, vI x8] (sh, I, L) (0, 0) ?_
  refine And.intro (mem1 (sk_0 hs)) (Exists.intro 3 (And.intro (sr_0_1 hs) ?_))
  refine hK.1 87 [some (vR 0), some (vI x1), some (vI x2), some (vI x3), none, some (vI x5), some (vI x6), some (vI x7), some (vI x8), none] [vR 3, vI x8] (sh, I, L) (0, 0) ?_
  refine And.intro (mem1 (sk_3 hs)) ?_
  refine hK.1 90 [some (vR 0), some (vI x1), some (vI x2), some (vI x3), none, some (vI x5), some (vI x6), some (vI x7), some (vI x8), none] [vI (I 3 0), vI x8] (sh, I, L) (0, 0) ?_
  exact And.intro (And.intro n90a n90b) (And.intro (fun h => hK.2 [false, false, false, true, false, false, true, true, false, false] _ _ _ _ _ (kt h)) (fun h => hK.2 [true, true, true, true, false, true, true, true, true, false] _ _ _ _ _ (kf h)))
set_option maxRecDepth 4000 in
theorem B_X11_burnt_93 {Q : oQ} {K : oK} (hK : oCl tb_X11_burnt Q K) {sh : oS} (hs : Sh sh) {I : Nat → Nat → Int} {L : Nat → Nat → Int64} {x1 : Int} {x2 : Int} {x3 : Int} {x5 : Int} {x6 : Int} {x7 : Int} {x8 : Int} (b102 : 0 ≤ x8 ∧ x8 < 8) (n103 : inR (I 4 (x8.toNat))) (kt : ¬ I 4 (x8.toNat) = 0 → K 109 [some (vR 0), some (vI x1), some (vI x2), some (vI x3), none, some (vI x5), some (vI x6), some (vI x7), some (vI x8), none] [] (sh, I, L) (0, 0)) (kf : ¬ (¬ I 4 (x8.toNat) = 0) → K 106 [some (vR 0), some (vI x1), some (vI x2), some (vI x3), none, some (vI x5), some (vI x6), some (vI x7), some (vI x8), none] [] (sh, I, L) (0, 0)) : K 93 [some (vR 0), some (vI x1), some (vI x2), some (vI x3), none, some (vI x5), some (vI x6), some (vI x7), some (vI x8), none] [] (sh, I, L) (0, 0) := by
  refine hK.1 93 [some (vR 0), some (vI x1), some (vI x2), some (vI x3), none, some (vI x5), some (vI x6), some (vI x7), some (vI x8), none] [] (sh, I, L) (0, 0) ?_
  refine hK.1 94 [some (vR 0), some (vI x1), some (vI x2), some (vI x3), none, some (vI x5), some (vI x6), some (vI x7), some (vI x8), none] [vR 0] (sh, I, L) (0, 0) ?_
  refine And.intro (mem1 (sk_0 hs)) (Exists.intro 3 (And.intro (sr_0_1 hs) ?_))
  refine hK.1 97 [some (vR 0), some (vI x1), some (vI x2), some (vI x3), none, some (vI x5), some (vI x6), some (vI x7), some (vI x8), none] [vR 3] (sh, I, L) (0, 0) ?_
  refine And.intro (mem1 (sk_3 hs)) (Exists.intro 4 (And.intro (sr_3_1 hs) ?_))
  refine hK.1 100 [some (vR 0), some (vI x1), some (vI x2), some (vI x3), none, some (vI x5), some (vI x6), some (vI x7), some (vI x8), none] [vR 4] (sh, I, L) (0, 0) ?_
  refine hK.1 102 [some (vR 0), some (vI x1), some (vI x2), some (vI x3), none, some (vI x5), some (vI x6), some (vI x7), some (vI x8), none] [vI x8, vR 4] (sh, I, L) (0, 0) ?_
  refine And.intro (And.intro (sk_4 hs) (ixL (sl_4 hs) b102)) ?_
  refine hK.1 103 [some (vR 0), some (vI x1), some (vI x2), some (vI x3), none, some (vI x5), some (vI x6), some (vI x7), some (vI x8), none] [vI (I 4 (x8.toNat))] (sh, I, L) (0, 0) ?_
  exact And.intro (n103) (And.intro (fun h => hK.2 [true, true, true, true, false, true, true, true, true, false] _ _ _ _ _ (kt h)) (fun h => hK.2 [true, true, true, true, false, true, true, true, true, false] _ _ _ _ _ (kf h)))
set_option maxRecDepth 4000 in
theorem B_X11_burnt_106 {Q : oQ} {K : oK} (hK : oCl tb_X11_burnt Q K) {sh : oS} {I : Nat → Nat → Int} {L : Nat → Nat → Int64} {x1 : Int} {x2 : Int} {x3 : Int} {x5 : Int} {x6 : Int} {x7 : Int} {x8 : Int} (k : K 170 [some (vR 0), some (vI x1), some (vI x2), some (vI x3), none, some (vI x5), some (vI x6), some (vI x7), some (vI x8), none] [] (sh, I, L) (0, 0)) : K 106 [some (vR 0), some (vI x1), some (vI x2), some (vI x3), none, some (vI x5), some (vI x6), some (vI x7), some (vI x8), none] [] (sh, I, L) (0, 0) := by
  refine hK.1 106 [some (vR 0), some (vI x1), some (vI x2), some (vI x3), none, some (vI x5), some (vI x6), some (vI x7), some (vI x8), none] [] (sh, I, L) (0, 0) ?_
  exact k
set_option maxRecDepth 4000 in
theorem B_X11_burnt_109 {Q : oQ} {K : oK} (hK : oCl tb_X11_burnt Q K) {sh : oS} (hs : Sh sh) {I : Nat → Nat → Int} {L : Nat → Nat → Int64} {x1 : Int} {x2 : Int} {x3 : Int} {x5 : Int} {x6 : Int} {x7 : Int} {x8 : Int} (k : T_X4_become [vR 6, vR 3] (sh, I, L) (fun r mm => K 120 [some (vR 0), some (vI x1), some (vI x2), some (vI x3), none, some (vI x5), some (vI x6), some (vI x7), some (vI x8), none] (r.toList ++ []) mm (0, 0))) : K 109 [some (vR 0), some (vI x1), some (vI x2), some (vI x3), none, some (vI x5), some (vI x6), some (vI x7), some (vI x8), none] [] (sh, I, L) (0, 0) := by
  refine hK.1 109 [some (vR 0), some (vI x1), some (vI x2), some (vI x3), none, some (vI x5), some (vI x6), some (vI x7), some (vI x8), none] [] (sh, I, L) (0, 0) ?_
  refine hK.1 110 [some (vR 0), some (vI x1), some (vI x2), some (vI x3), none, some (vI x5), some (vI x6), some (vI x7), some (vI x8), none] [vR 0] (sh, I, L) (0, 0) ?_
  refine And.intro (mem1 (sk_0 hs)) (Exists.intro 6 (And.intro (sr_0_2 hs) ?_))
  refine hK.1 113 [some (vR 0), some (vI x1), some (vI x2), some (vI x3), none, some (vI x5), some (vI x6), some (vI x7), some (vI x8), none] [vR 6] (sh, I, L) (0, 0) ?_
  refine hK.1 114 [some (vR 0), some (vI x1), some (vI x2), some (vI x3), none, some (vI x5), some (vI x6), some (vI x7), some (vI x8), none] [vR 0, vR 6] (sh, I, L) (0, 0) ?_
  refine And.intro (mem1 (sk_0 hs)) (Exists.intro 3 (And.intro (sr_0_1 hs) ?_))
  refine hK.1 117 [some (vR 0), some (vI x1), some (vI x2), some (vI x3), none, some (vI x5), some (vI x6), some (vI x7), some (vI x8), none] [vR 3, vR 6] (sh, I, L) (0, 0) ?_
  exact And.intro ⟨(sk_6 hs), Nat.le_of_ble_eq_true rfl, Nat.le_of_ble_eq_true rfl, Nat.le_of_ble_eq_true rfl, Nat.le_of_ble_eq_true rfl⟩ k
set_option maxRecDepth 4000 in
theorem B_X11_burnt_120 {Q : oQ} {K : oK} (hK : oCl tb_X11_burnt Q K) {sh : oS} (hs : Sh sh) {I : Nat → Nat → Int} {L : Nat → Nat → Int64} {x1 : Int} {x2 : Int} {x3 : Int} {x5 : Int} {x6 : Int} {x7 : Int} {x8 : Int} {q143 : Nat} (b130 : 0 ≤ x8 ∧ x8 < 8) (b143 : 0 ≤ x1 ∧ x1 < 8) (r143 : sR sh 10 (x1.toNat) = some q143) (kq143_2 : sK sh q143 ∈ [0, 1, 3, 5, 10]) (k : T_X11_hungryIn [vR 0, vR 6, vI x1, vI x2, vI ((u2 I 7 (x8.toNat) 0) q143 0)] (sh, (u2 I 7 (x8.toNat) 0), L) (fun r mm => K 150 [some (vR 0), some (vI x1), some (vI x2), some (vI x3), none, some (vI x5), some (vI x6), some (vI x7), some (vI x8), none] (r.toList ++ []) mm (0, 0))) : K 120 [some (vR 0), some (vI x1), some (vI x2), some (vI x3), none, some (vI x5), some (vI x6), some (vI x7), some (vI x8), none] [] (sh, I, L) (0, 0) := by
  refine hK.1 120 [some (vR 0), some (vI x1), some (vI x2), some (vI x3), none, some (vI x5), some (vI x6), some (vI x7), some (vI x8), none] [] (sh, I, L) (0, 0) ?_
  refine hK.1 121 [some (vR 0), some (vI x1), some (vI x2), some (vI x3), none, some (vI x5), some (vI x6), some (vI x7), some (vI x8), none] [vR 0] (sh, I, L) (0, 0) ?_
  refine And.intro (mem1 (sk_0 hs)) (Exists.intro 6 (And.intro (sr_0_2 hs) ?_))
  refine hK.1 124 [some (vR 0), some (vI x1), some (vI x2), some (vI x3), none, some (vI x5), some (vI x6), some (vI x7), some (vI x8), none] [vR 6] (sh, I, L) (0, 0) ?_
  refine And.intro (mem1 (sk_6 hs)) (Exists.intro 7 (And.intro (sr_6_1 hs) ?_))
  refine hK.1 127 [some (vR 0), some (vI x1), some (vI x2), some (vI x3), none, some (vI x5), some (vI x6), some (vI x7), some (vI x8), none] [vR 7] (sh, I, L) (0, 0) ?_
  refine hK.1 129 [some (vR 0), some (vI x1), some (vI x2), some (vI x3), none, some (vI x5), some (vI x6), some (vI x7), some (vI x8), none] [vI x8, vR 7] (sh, I, L) (0, 0) ?_
  refine hK.1 130 [some (vR 0), some (vI x1), some (vI x2), some (vI x3), none, some (vI x5), some (vI x6), some (vI x7), some (vI x8), none] [vI 0, vI x8, vR 7] (sh, I, L) (0, 0) ?_
  refine And.intro (And.intro (sk_7 hs) (ixL (sl_7 hs) b130)) ?_
  refine hK.1 131 [some (vR 0), some (vI x1), some (vI x2), some (vI x3), none, some (vI x5), some (vI x6), some (vI x7), some (vI x8), none] [] (sh, (u2 I 7 (x8.toNat) 0), L) (0, 0) ?_
  refine hK.1 132 [some (vR 0), some (vI x1), some (vI x2), some (vI x3), none, some (vI x5), some (vI x6), some (vI x7), some (vI x8), none] [vR 0] (sh, (u2 I 7 (x8.toNat) 0), L) (0, 0) ?_
  refine hK.1 133 [some (vR 0), some (vI x1), some (vI x2), some (vI x3), none, some (vI x5), some (vI x6), some (vI x7), some (vI x8), none] [vR 0, vR 0] (sh, (u2 I 7 (x8.toNat) 0), L) (0, 0) ?_
  refine And.intro (mem1 (sk_0 hs)) (Exists.intro 6 (And.intro (sr_0_2 hs) ?_))
  refine hK.1 136 [some (vR 0), some (vI x1), some (vI x2), some (vI x3), none, some (vI x5), some (vI x6), some (vI x7), some (vI x8), none] [vR 6, vR 0] (sh, (u2 I 7 (x8.toNat) 0), L) (0, 0) ?_
  refine hK.1 137 [some (vR 0), some (vI x1), some (vI x2), some (vI x3), none, some (vI x5), some (vI x6), some (vI x7), some (vI x8), none] [vI x1, vR 6, vR 0] (sh, (u2 I 7 (x8.toNat) 0), L) (0, 0) ?_
  refine hK.1 138 [some (vR 0), some (vI x1), some (vI x2), some (vI x3), none, some (vI x5), some (vI x6), some (vI x7), some (vI x8), none] [vI x2, vI x1, vR 6, vR 0] (sh, (u2 I 7 (x8.toNat) 0), L) (0, 0) ?_
  refine hK.1 139 [some (vR 0), some (vI x1), some (vI x2), some (vI x3), none, some (vI x5), some (vI x6), some (vI x7), some (vI x8), none] [vR 0, vI x2, vI x1, vR 6, vR 0] (sh, (u2 I 7 (x8.toNat) 0), L) (0, 0) ?_
  refine And.intro (mem1 (sk_0 hs)) (Exists.intro 10 (And.intro (sr_0_4 hs) ?_))
  refine hK.1 142 [some (vR 0), some (vI x1), some (vI x2), some (vI x3), none, some (vI x5), some (vI x6), some (vI x7), some (vI x8), none] [vR 10, vI x2, vI x1, vR 6, vR 0] (sh, (u2 I 7 (x8.toNat) 0), L) (0, 0) ?_
  refine hK.1 143 [some (vR 0), some (vI x1), some (vI x2), some (vI x3), none, some (vI x5), some (vI x6), some (vI x7), some (vI x8), none] [vI x1, vR 10, vI x2, vI x1, vR 6, vR 0] (sh, (u2 I 7 (x8.toNat) 0), L) (0, 0) ?_
  refine And.intro (And.intro (sk_10 hs) (ixL (sl_10 hs) b143)) (Exists.intro q143 (And.intro r143 ?_))
  refine hK.1 144 [some (vR 0), some (vI x1), some (vI x2), some (vI x3), none, some (vI x5), some (vI x6), some (vI x7), some (vI x8), none] [vR q143, vI x2, vI x1, vR 6, vR 0] (sh, (u2 I 7 (x8.toNat) 0), L) (0, 0) ?_
  refine And.intro (kq143_2) ?_
  refine hK.1 147 [some (vR 0), some (vI x1), some (vI x2), some (vI x3), none, some (vI x5), some (vI x6), some (vI x7), some (vI x8), none] [vI ((u2 I 7 (x8.toNat) 0) q143 0), vI x2, vI x1, vR 6, vR 0] (sh, (u2 I 7 (x8.toNat) 0), L) (0, 0) ?_
  exact And.intro ⟨(sk_0 hs), Nat.le_of_ble_eq_true rfl, Nat.le_of_ble_eq_true rfl, Nat.le_of_ble_eq_true rfl, Nat.le_of_ble_eq_true rfl⟩ k
set_option maxRecDepth 4000 in
theorem B_X11_burnt_150 {Q : oQ} {K : oK} (hK : oCl tb_X11_burnt Q K) {sh : oS} {I : Nat → Nat → Int} {L : Nat → Nat → Int64} {x1 : Int} {x2 : Int} {x3 : Int} {x5 : Int} {x6 : Int} {x7 : Int} {x8 : Int} {s0 : Int} (n159a : inR (s0 - x5)) (n159b : inR x7) (kt : s0 - x5 ≤ x7 → K 170 [some (vR 0), some (vI x1), some (vI x2), some (vI x3), none, some (vI x5), some (vI x6), some (vI x7), some (vI x8), none] [] (sh, I, L) (0, 0)) (kf : ¬ (s0 - x5 ≤ x7) → K 162 [some (vR 0), some (vI x1), some (vI x2), some (vI x3), none, some (vI x5), none, none, some (vI x8), some (vI (s0 - x5))] [] (sh, I, L) (0, 0)) : K 150 [some (vR 0), some (vI x1), some (vI x2), some (vI x3), none, some (vI x5), some (vI x6), some (vI x7), some (vI x8), none] [vI s0] (sh, I, L) (0, 0) := by
  refine hK.1 150 [some (vR 0), some (vI x1), some (vI x2), some (vI x3), none, some (vI x5), some (vI x6), some (vI x7), some (vI x8), none] [vI s0] (sh, I, L) (0, 0) ?_
  refine hK.1 152 [some (vR 0), some (vI x1), some (vI x2), some (vI x3), none, some (vI x5), some (vI x6), some (vI x7), some (vI x8), none] [vI x5, vI s0] (sh, I, L) (0, 0) ?_
  refine hK.1 153 [some (vR 0), some (vI x1), some (vI x2), some (vI x3), none, some (vI x5), some (vI x6), some (vI x7), some (vI x8), none] [vI (s0 - x5)] (sh, I, L) (0, 0) ?_
  refine hK.1 155 [some (vR 0), some (vI x1), some (vI x2), some (vI x3), none, some (vI x5), some (vI x6), some (vI x7), some (vI x8), some (vI (s0 - x5))] [] (sh, I, L) (0, 0) ?_
  refine hK.1 157 [some (vR 0), some (vI x1), some (vI x2), some (vI x3), none, some (vI x5), some (vI x6), some (vI x7), some (vI x8), some (vI (s0 - x5))] [vI (s0 - x5)] (sh, I, L) (0, 0) ?_
  refine hK.1 159 [some (vR 0), some (vI x1), some (vI x2), some (vI x3), none, some (vI x5), some (vI x6), some (vI x7), some (vI x8), some (vI (s0 - x5))] [vI x7, vI (s0 - x5)] (sh, I, L) (0, 0) ?_
  exact And.intro (And.intro n159a n159b) (And.intro (fun h => hK.2 [true, true, true, true, false, true, true, true, true, false] _ _ _ _ _ (kt h)) (fun h => hK.2 [true, true, true, true, false, true, false, false, true, true] _ _ _ _ _ (kf h)))
set_option maxRecDepth 4000 in
theorem B_X11_burnt_162 {Q : oQ} {K : oK} (hK : oCl tb_X11_burnt Q K) {sh : oS} {I : Nat → Nat → Int} {L : Nat → Nat → Int64} {x1 : Int} {x2 : Int} {x3 : Int} {x5 : Int} {x8 : Int} {x9 : Int} (k : K 170 [some (vR 0), some (vI x1), some (vI x2), some (vI x3), none, some (vI x5), some (vI x8), some (vI x9), some (vI x8), none] [] (sh, I, L) (0, 0)) : K 162 [some (vR 0), some (vI x1), some (vI x2), some (vI x3), none, some (vI x5), none, none, some (vI x8), some (vI x9)] [] (sh, I, L) (0, 0) := by
  refine hK.1 162 [some (vR 0), some (vI x1), some (vI x2), some (vI x3), none, some (vI x5), none, none, some (vI x8), some (vI x9)] [] (sh, I, L) (0, 0) ?_
  refine hK.1 164 [some (vR 0), some (vI x1), some (vI x2), some (vI x3), none, some (vI x5), none, none, some (vI x8), some (vI x9)] [vI x9] (sh, I, L) (0, 0) ?_
  refine hK.1 166 [some (vR 0), some (vI x1), some (vI x2), some (vI x3), none, some (vI x5), none, some (vI x9), some (vI x8), some (vI x9)] [] (sh, I, L) (0, 0) ?_
  refine hK.1 168 [some (vR 0), some (vI x1), some (vI x2), some (vI x3), none, some (vI x5), none, some (vI x9), some (vI x8), some (vI x9)] [vI x8] (sh, I, L) (0, 0) ?_
  refine hK.2 [true, true, true, true, false, true, true, true, true, false] _ _ _ _ _ ?_
  exact k
set_option maxRecDepth 4000 in
theorem B_X11_burnt_170 {Q : oQ} {K : oK} (hK : oCl tb_X11_burnt Q K) {sh : oS} {I : Nat → Nat → Int} {L : Nat → Nat → Int64} {x1 : Int} {x2 : Int} {x3 : Int} {x5 : Int} {x6 : Int} {x7 : Int} {x8 : Int} (k : K 81 [some (vR 0), some (vI x1), some (vI x2), some (vI x3), none, some (vI x5), some (vI x6), some (vI x7), some (vI (x8 + 1)), none] [] (sh, I, L) (0, 0)) : K 170 [some (vR 0), some (vI x1), some (vI x2), some (vI x3), none, some (vI x5), some (vI x6), some (vI x7), some (vI x8), none] [] (sh, I, L) (0, 0) := by
  refine hK.1 170 [some (vR 0), some (vI x1), some (vI x2), some (vI x3), none, some (vI x5), some (vI x6), some (vI x7), some (vI x8), none] [] (sh, I, L) (0, 0) ?_
  refine hK.1 173 [some (vR 0), some (vI x1), some (vI x2), some (vI x3), none, some (vI x5), some (vI x6), some (vI x7), some (vI (x8 + 1)), none] [] (sh, I, L) (0, 0) ?_
  exact k
set_option maxRecDepth 4000 in
theorem B_X11_burnt_176 {Q : oQ} {K : oK} (hK : oCl tb_X11_burnt Q K) {sh : oS} {I : Nat → Nat → Int} {L : Nat → Nat → Int64} {x3 : Int} {x6 : Int} {x7 : Int} (n177 : inR x3) (kt : ¬ x3 = 0 → K 185 [none, none, none, none, none, none, none, some (vI x7), none, none] [] (sh, I, L) (0, 0)) (kf : ¬ (¬ x3 = 0) → K 180 [none, none, none, none, none, none, some (vI x6), none, none, none] [] (sh, I, L) (0, 0)) : K 176 [none, none, none, some (vI x3), none, none, some (vI x6), some (vI x7), none, none] [] (sh, I, L) (0, 0) := by
  refine hK.1 176 [none, none, none, some (vI x3), none, none, some (vI x6), some (vI x7), none, none] [] (sh, I, L) (0, 0) ?_
  refine hK.1 177 [none, none, none, some (vI x3), none, none, some (vI x6), some (vI x7), none, none] [vI x3] (sh, I, L) (0, 0) ?_
  exact And.intro (n177) (And.intro (fun h => hK.2 [false, false, false, false, false, false, false, true, false, false] _ _ _ _ _ (kt h)) (fun h => hK.2 [false, false, false, false, false, false, true, false, false, false] _ _ _ _ _ (kf h)))
set_option maxRecDepth 4000 in
theorem B_X11_burnt_180 {Q : oQ} {K : oK} (hK : oCl tb_X11_burnt Q K) {sh : oS} {I : Nat → Nat → Int} {L : Nat → Nat → Int64} {x6 : Int} (k : K 187 [none, none, none, none, none, none, none, none, none, none] [vI x6] (sh, I, L) (0, 0)) : K 180 [none, none, none, none, none, none, some (vI x6), none, none, none] [] (sh, I, L) (0, 0) := by
  refine hK.1 180 [none, none, none, none, none, none, some (vI x6), none, none, none] [] (sh, I, L) (0, 0) ?_
  refine hK.1 182 [none, none, none, none, none, none, some (vI x6), none, none, none] [vI x6] (sh, I, L) (0, 0) ?_
  refine hK.2 [false, false, false, false, false, false, false, false, false, false] _ _ _ _ _ ?_
  exact k
set_option maxRecDepth 4000 in
theorem B_X11_burnt_185 {Q : oQ} {K : oK} (hK : oCl tb_X11_burnt Q K) {sh : oS} {I : Nat → Nat → Int} {L : Nat → Nat → Int64} {x7 : Int} (k : K 187 [none, none, none, none, none, none, none, none, none, none] [vI x7] (sh, I, L) (0, 0)) : K 185 [none, none, none, none, none, none, none, some (vI x7), none, none] [] (sh, I, L) (0, 0) := by
  refine hK.1 185 [none, none, none, none, none, none, none, some (vI x7), none, none] [] (sh, I, L) (0, 0) ?_
  refine hK.2 [false, false, false, false, false, false, false, false, false, false] _ _ _ _ _ ?_
  exact k
set_option maxRecDepth 4000 in
theorem B_X11_burnt_187 {Q : oQ} {K : oK} (hK : oCl tb_X11_burnt Q K) {sh : oS} {I : Nat → Nat → Int} {L : Nat → Nat → Int64} {s0 : Int} (k : Q (some (vI s0)) (sh, I, L)) : K 187 [none, none, none, none, none, none, none, none, none, none] [vI s0] (sh, I, L) (0, 0) := by
  refine hK.1 187 [none, none, none, none, none, none, none, none, none, none] [vI s0] (sh, I, L) (0, 0) ?_
  exact And.intro ⟨by decide, by decide⟩ k
set_option maxRecDepth 4000 in
theorem B_X11_wayRefusal_0 {Q : oQ} {K : oK} (hK : oCl tb_X11_wayRefusal Q K) {sh : oS} (hs : Sh sh) {I : Nat → Nat → Int} {L : Nat → Nat → Int64} {x1 : Int} {x2 : Int} {x3 : Int} (k : T_X11_refusal [vR 0, vI x1, vI x2] (sh, I, L) (fun r mm => K 6 [some (vR 0), none, some (vI x2), some (vI x3), none] (r.toList ++ []) mm (0, 0))) : K 0 [some (vR 0), some (vI x1), some (vI x2), some (vI x3), none] [] (sh, I, L) (0, 0) := by
  refine hK.1 0 [some (vR 0), some (vI x1), some (vI x2), some (vI x3), none] [] (sh, I, L) (0, 0) ?_
  refine hK.1 1 [some (vR 0), some (vI x1), some (vI x2), some (vI x3), none] [vR 0] (sh, I, L) (0, 0) ?_
  refine hK.1 2 [some (vR 0), some (vI x1), some (vI x2), some (vI x3), none] [vI x1, vR 0] (sh, I, L) (0, 0) ?_
  refine hK.2 [true, false, true, true, false] _ _ _ _ _ ?_
  refine hK.1 3 [some (vR 0), none, some (vI x2), some (vI x3), none] [vI x2, vI x1, vR 0] (sh, I, L) (0, 0) ?_
  exact And.intro ⟨(sk_0 hs), Nat.le_of_ble_eq_true rfl, Nat.le_of_ble_eq_true rfl, Nat.le_of_ble_eq_true rfl, Nat.le_of_ble_eq_true rfl⟩ k
set_option maxRecDepth 4000 in
theorem B_X11_wayRefusal_6 {Q : oQ} {K : oK} (hK : oCl tb_X11_wayRefusal Q K) {sh : oS} {I : Nat → Nat → Int} {L : Nat → Nat → Int64} {x2 : Int} {x3 : Int} {s0 : Int} (n10 : inR s0) (kt : s0 = 0 → K 16 [some (vR 0), none, some (vI x2), some (vI x3), none] [] (sh, I, L) (0, 0)) (kf : ¬ (s0 = 0) → K 13 [none, none, none, none, some (vI s0)] [] (sh, I, L) (0, 0)) : K 6 [some (vR 0), none, some (vI x2), some (vI x3), none] [vI s0] (sh, I, L) (0, 0) := by
  refine hK.1 6 [some (vR 0), none, some (vI x2), some (vI x3), none] [vI s0] (sh, I, L) (0, 0) ?_
  refine hK.1 8 [some (vR 0), none, some (vI x2), some (vI x3), some (vI s0)] [] (sh, I, L) (0, 0) ?_
  refine hK.1 10 [some (vR 0), none, some (vI x2), some (vI x3), some (vI s0)] [vI s0] (sh, I, L) (0, 0) ?_
  exact And.intro (n10) (And.intro (fun h => hK.2 [true, false, true, true, false] _ _ _ _ _ (kt h)) (fun h => hK.2 [false, false, false, false, true] _ _ _ _ _ (kf h)))
set_option maxRecDepth 4000 in
theorem B_X11_wayRefusal_13 {Q : oQ} {K : oK} (hK : oCl tb_X11_wayRefusal Q K) {sh : oS} {I : Nat → Nat → Int} {L : Nat → Nat → Int64} {x4 : Int} (k : Q (some (vI x4)) (sh, I, L)) : K 13 [none, none, none, none, some (vI x4)] [] (sh, I, L) (0, 0) := by
  refine hK.1 13 [none, none, none, none, some (vI x4)] [] (sh, I, L) (0, 0) ?_
  refine hK.1 15 [none, none, none, none, some (vI x4)] [vI x4] (sh, I, L) (0, 0) ?_
  exact And.intro ⟨by decide, by decide⟩ k
set_option maxRecDepth 4000 in
theorem B_X11_wayRefusal_16 {Q : oQ} {K : oK} (hK : oCl tb_X11_wayRefusal Q K) {sh : oS} (hs : Sh sh) {I : Nat → Nat → Int} {L : Nat → Nat → Int64} {x2 : Int} {x3 : Int} {q21 : Nat} {q21e q21p q21t : Nat} (b21 : 0 ≤ x2 ∧ x2 < 4) (r21 : sR sh 9 (x2.toNat) = some q21) (k : T_X6_hasWay [vR q21, vI x3] (sh, I, L) (fun r mm => K 26 [none, none, none, none, none] (r.toList ++ []) mm (0, 0))) (Aq21 : MarchAt sh q21 q21e q21p q21t) : K 16 [some (vR 0), none, some (vI x2), some (vI x3), none] [] (sh, I, L) (0, 0) := by
  refine hK.1 16 [some (vR 0), none, some (vI x2), some (vI x3), none] [] (sh, I, L) (0, 0) ?_
  refine hK.1 17 [some (vR 0), none, some (vI x2), some (vI x3), none] [vR 0] (sh, I, L) (0, 0) ?_
  refine And.intro (mem1 (sk_0 hs)) (Exists.intro 9 (And.intro (sr_0_3 hs) ?_))
  refine hK.1 20 [some (vR 0), none, some (vI x2), some (vI x3), none] [vR 9] (sh, I, L) (0, 0) ?_
  refine hK.1 21 [some (vR 0), none, some (vI x2), some (vI x3), none] [vI x2, vR 9] (sh, I, L) (0, 0) ?_
  refine And.intro (And.intro (sk_9 hs) (ixL (sl_9 hs) b21)) (Exists.intro q21 (And.intro r21 ?_))
  refine hK.1 22 [some (vR 0), none, some (vI x2), some (vI x3), none] [vR q21] (sh, I, L) (0, 0) ?_
  refine hK.2 [false, false, false, false, false] _ _ _ _ _ ?_
  refine hK.1 23 [none, none, none, none, none] [vI x3, vR q21] (sh, I, L) (0, 0) ?_
  exact And.intro ⟨Aq21.1, Nat.le_of_ble_eq_true rfl, Nat.le_of_ble_eq_true rfl, Nat.le_of_ble_eq_true rfl, Nat.le_of_ble_eq_true rfl⟩ k
set_option maxRecDepth 4000 in
theorem B_X11_wayRefusal_26 {Q : oQ} {K : oK} (hK : oCl tb_X11_wayRefusal Q K) {sh : oS} {I : Nat → Nat → Int} {L : Nat → Nat → Int64} {s0 : Int} (n26 : inR s0) (kt : s0 = 0 → K 33 [none, none, none, none, none] [] (sh, I, L) (0, 0)) (kf : ¬ (s0 = 0) → K 29 [none, none, none, none, none] [] (sh, I, L) (0, 0)) : K 26 [none, none, none, none, none] [vI s0] (sh, I, L) (0, 0) := by
  refine hK.1 26 [none, none, none, none, none] [vI s0] (sh, I, L) (0, 0) ?_
  exact And.intro (n26) (And.intro (fun h => hK.2 [false, false, false, false, false] _ _ _ _ _ (kt h)) (fun h => hK.2 [false, false, false, false, false] _ _ _ _ _ (kf h)))
set_option maxRecDepth 4000 in
theorem B_X11_wayRefusal_29 {Q : oQ} {K : oK} (hK : oCl tb_X11_wayRefusal Q K) {sh : oS} {I : Nat → Nat → Int} {L : Nat → Nat → Int64}  (k : K 35 [none, none, none, none, none] [vI 0] (sh, I, L) (0, 0)) : K 29 [none, none, none, none, none] [] (sh, I, L) (0, 0) := by
  refine hK.1 29 [none, none, none, none, none] [] (sh, I, L) (0, 0) ?_
  refine hK.1 30 [none, none, none, none, none] [vI 0] (sh, I, L) (0, 0) ?_
  exact k
set_option maxRecDepth 4000 in
theorem B_X11_wayRefusal_33 {Q : oQ} {K : oK} (hK : oCl tb_X11_wayRefusal Q K) {sh : oS} {I : Nat → Nat → Int} {L : Nat → Nat → Int64}  (k : K 35 [none, none, none, none, none] [vI (-102)] (sh, I, L) (0, 0)) : K 33 [none, none, none, none, none] [] (sh, I, L) (0, 0) := by
  refine hK.1 33 [none, none, none, none, none] [] (sh, I, L) (0, 0) ?_
  exact k
set_option maxRecDepth 4000 in
theorem B_X11_wayRefusal_35 {Q : oQ} {K : oK} (hK : oCl tb_X11_wayRefusal Q K) {sh : oS} {I : Nat → Nat → Int} {L : Nat → Nat → Int64} {s0 : Int} (k : Q (some (vI s0)) (sh, I, L)) : K 35 [none, none, none, none, none] [vI s0] (sh, I, L) (0, 0) := by
  refine hK.1 35 [none, none, none, none, none] [vI s0] (sh, I, L) (0, 0) ?_
  exact And.intro ⟨by decide, by decide⟩ k
set_option maxRecDepth 4000 in
theorem B_X11_carried_0 {Q : oQ} {K : oK} (hK : oCl tb_X11_carried Q K) {sh : oS} (hs : Sh sh) {I : Nat → Nat → Int} {L : Nat → Nat → Int64} {x1 : Int} {x2 : Int} {x3 : Int} (k : T_X11_wayRefusal [vR 0, vI x1, vI x2, vI x3] (sh, I, L) (fun r mm => K 7 [some (vR 0), some (vI x1), some (vI x2), some (vI x3), none] (r.toList ++ []) mm (0, 0))) : K 0 [some (vR 0), some (vI x1), some (vI x2), some (vI x3), none] [] (sh, I, L) (0, 0) := by
  refine hK.1 0 [some (vR 0), some (vI x1), some (vI x2), some (vI x3), none] [] (sh, I, L) (0, 0) ?_
  refine hK.1 1 [some (vR 0), some (vI x1), some (vI x2), some (vI x3), none] [vR 0] (sh, I, L) (0, 0) ?_
  refine hK.1 2 [some (vR 0), some (vI x1), some (vI x2), some (vI x3), none] [vI x1, vR 0] (sh, I, L) (0, 0) ?_
  refine hK.1 3 [some (vR 0), some (vI x1), some (vI x2), some (vI x3), none] [vI x2, vI x1, vR 0] (sh, I, L) (0, 0) ?_
  refine hK.1 4 [some (vR 0), some (vI x1), some (vI x2), some (vI x3), none] [vI x3, vI x2, vI x1, vR 0] (sh, I, L) (0, 0) ?_
  exact And.intro ⟨(sk_0 hs), Nat.le_of_ble_eq_true rfl, Nat.le_of_ble_eq_true rfl, Nat.le_of_ble_eq_true rfl, Nat.le_of_ble_eq_true rfl⟩ k
set_option maxRecDepth 4000 in
theorem B_X11_carried_7 {Q : oQ} {K : oK} (hK : oCl tb_X11_carried Q K) {sh : oS} {I : Nat → Nat → Int} {L : Nat → Nat → Int64} {x1 : Int} {x2 : Int} {x3 : Int} {s0 : Int} (n11 : inR s0) (kt : s0 = 0 → K 19 [some (vR 0), some (vI x1), some (vI x2), some (vI x3), none] [] (sh, I, L) (0, 0)) (kf : ¬ (s0 = 0) → K 14 [none, none, none, none, some (vI s0)] [] (sh, I, L) (0, 0)) : K 7 [some (vR 0), some (vI x1), some (vI x2), some (vI x3), none] [vI s0] (sh, I, L) (0, 0) := by
  refine hK.1 7 [some (vR 0), some (vI x1), some (vI x2), some (vI x3), none] [vI s0] (sh, I, L) (0, 0) ?_
  refine hK.1 9 [some (vR 0), some (vI x1), some (vI x2), some (vI x3), some (vI s0)] [] (sh, I, L) (0, 0) ?_
  refine hK.1 11 [some (vR 0), some (vI x1), some (vI x2), some (vI x3), some (vI s0)] [vI s0] (sh, I, L) (0, 0) ?_
  exact And.intro (n11) (And.intro (fun h => hK.2 [true, true, true, true, false] _ _ _ _ _ (kt h)) (fun h => hK.2 [false, false, false, false, true] _ _ _ _ _ (kf h)))
set_option maxRecDepth 4000 in
theorem B_X11_carried_14 {Q : oQ} {K : oK} (hK : oCl tb_X11_carried Q K) {sh : oS} {I : Nat → Nat → Int} {L : Nat → Nat → Int64} {x4 : Int} (k : K 31 [none, none, none, none, none] [vI x4] (sh, I, L) (0, 0)) : K 14 [none, none, none, none, some (vI x4)] [] (sh, I, L) (0, 0) := by
  refine hK.1 14 [none, none, none, none, some (vI x4)] [] (sh, I, L) (0, 0) ?_
  refine hK.1 16 [none, none, none, none, some (vI x4)] [vI x4] (sh, I, L) (0, 0) ?_
  refine hK.2 [false, false, false, false, false] _ _ _ _ _ ?_
  exact k
set_option maxRecDepth 4000 in
theorem B_X11_carried_19 {Q : oQ} {K : oK} (hK : oCl tb_X11_carried Q K) {sh : oS} (hs : Sh sh) {I : Nat → Nat → Int} {L : Nat → Nat → Int64} {x1 : Int} {x2 : Int} {x3 : Int} (k : T_X11_solved [vR 0, vI x1, vI x2, vI x3] (sh, I, L) (fun r mm => K 30 [none, none, none, none, none] (r.toList ++ [vR 42]) mm (0, 0))) : K 19 [some (vR 0), some (vI x1), some (vI x2), some (vI x3), none] [] (sh, I, L) (0, 0) := by
  refine hK.1 19 [some (vR 0), some (vI x1), some (vI x2), some (vI x3), none] [] (sh, I, L) (0, 0) ?_
  refine hK.1 20 [some (vR 0), some (vI x1), some (vI x2), some (vI x3), none] [vR 0] (sh, I, L) (0, 0) ?_
  refine And.intro (mem1 (sk_0 hs)) (Exists.intro 42 (And.intro (sr_0_16 hs) ?_))
  refine hK.1 23 [some (vR 0), some (vI x1), some (vI x2), some (vI x3), none] [vR 42] (sh, I, L) (0, 0) ?_
  refine hK.1 24 [some (vR 0), some (vI x1), some (vI x2), some (vI x3), none] [vR 0, vR 42] (sh, I, L) (0, 0) ?_
  refine hK.1 25 [some (vR 0), some (vI x1), some (vI x2), some (vI x3), none] [vI x1, vR 0, vR 42] (sh, I, L) (0, 0) ?_
  refine hK.1 26 [some (vR 0), some (vI x1), some (vI x2), some (vI x3), none] [vI x2, vI x1, vR 0, vR 42] (sh, I, L) (0, 0) ?_
  refine hK.2 [false, false, false, false, false] _ _ _ _ _ ?_
  refine hK.1 27 [none, none, none, none, none] [vI x3, vI x2, vI x1, vR 0, vR 42] (sh, I, L) (0, 0) ?_
  exact And.intro ⟨(sk_0 hs), Nat.le_of_ble_eq_true rfl, Nat.le_of_ble_eq_true rfl, Nat.le_of_ble_eq_true rfl, Nat.le_of_ble_eq_true rfl⟩ k
set_option maxRecDepth 4000 in
theorem B_X11_carried_30 {Q : oQ} {K : oK} (hK : oCl tb_X11_carried Q K) {sh : oS} (hs : Sh sh) {I : Nat → Nat → Int} {L : Nat → Nat → Int64} {s1 : Int} (b30 : 0 ≤ s1 ∧ s1 < 128) (k : K 31 [none, none, none, none, none] [vI (I 42 (s1.toNat))] (sh, I, L) (0, 0)) : K 30 [none, none, none, none, none] [vI s1, vR 42] (sh, I, L) (0, 0) := by
  refine hK.1 30 [none, none, none, none, none] [vI s1, vR 42] (sh, I, L) (0, 0) ?_
  refine And.intro (And.intro (sk_42 hs) (ixL (sl_42 hs) b30)) ?_
  exact k
set_option maxRecDepth 4000 in
theorem B_X11_carried_31 {Q : oQ} {K : oK} (hK : oCl tb_X11_carried Q K) {sh : oS} {I : Nat → Nat → Int} {L : Nat → Nat → Int64} {s0 : Int} (k : Q (some (vI s0)) (sh, I, L)) : K 31 [none, none, none, none, none] [vI s0] (sh, I, L) (0, 0) := by
  refine hK.1 31 [none, none, none, none, none] [vI s0] (sh, I, L) (0, 0) ?_
  exact And.intro ⟨by decide, by decide⟩ k
set_option maxRecDepth 4000 in
theorem B_X11_commonDivisor_0 {Q : oQ} {K : oK} (hK : oCl tb_X11_commonDivisor Q K) {sh : oS} {I : Nat → Nat → Int} {L : Nat → Nat → Int64} {x0 : Int} {x1 : Int} (k : K 7 [none, none, some (vI x0), some (vI x1), some (vI 0), none] [] (sh, I, L) (0, 0)) : K 0 [some (vI x0), some (vI x1), none, none, none, none] [] (sh, I, L) (0, 0) := by
  refine hK.1 0 [some (vI x0), some (vI x1), none, none, none, none] [] (sh, I, L) (0, 0) ?_
  refine hK.1 1 [some (vI x0), some (vI x1), none, none, none, none] [vI x0] (sh, I, L) (0, 0) ?_
  refine hK.1 2 [some (vI x0), some (vI x1), some (vI x0), none, none, none] [] (sh, I, L) (0, 0) ?_
  refine hK.1 3 [some (vI x0), some (vI x1), some (vI x0), none, none, none] [vI x1] (sh, I, L) (0, 0) ?_
  refine hK.1 4 [some (vI x0), some (vI x1), some (vI x0), some (vI x1), none, none] [] (sh, I, L) (0, 0) ?_
  refine hK.1 5 [some (vI x0), some (vI x1), some (vI x0), some (vI x1), none, none] [vI 0] (sh, I, L) (0, 0) ?_
  refine hK.2 [false, false, true, true, true, false] _ _ _ _ _ ?_
  exact k
set_option maxRecDepth 4000 in
theorem B_X11_commonDivisor_7 {Q : oQ} {K : oK} (hK : oCl tb_X11_commonDivisor Q K) {sh : oS} {I : Nat → Nat → Int} {L : Nat → Nat → Int64} {x2 : Int} {x3 : Int} {x4 : Int} (n11a : inR x4) (kt : 64 ≤ x4 → K 34 [none, none, some (vI x2), none, none, none] [] (sh, I, L) (0, 0)) (kf : ¬ (64 ≤ x4) → K 14 [none, none, some (vI x2), some (vI x3), some (vI x4), none] [] (sh, I, L) (0, 0)) : K 7 [none, none, some (vI x2), some (vI x3), some (vI x4), none] [] (sh, I, L) (0, 0) := by
  refine hK.1 7 [none, none, some (vI x2), some (vI x3), some (vI x4), none] [] (sh, I, L) (0, 0) ?_
  refine hK.1 9 [none, none, some (vI x2), some (vI x3), some (vI x4), none] [vI x4] (sh, I, L) (0, 0) ?_
  refine hK.1 11 [none, none, some (vI x2), some (vI x3), some (vI x4), none] [vI 64, vI x4] (sh, I, L) (0, 0) ?_
  exact And.intro (And.intro n11a ⟨by decide, by decide⟩) (And.intro (fun h => hK.2 [false, false, true, false, false, false] _ _ _ _ _ (kt h)) (fun h => hK.2 [false, false, true, true, true, false] _ _ _ _ _ (kf h)))
set_option maxRecDepth 4000 in
theorem B_X11_commonDivisor_14 {Q : oQ} {K : oK} (hK : oCl tb_X11_commonDivisor Q K) {sh : oS} {I : Nat → Nat → Int} {L : Nat → Nat → Int64} {x2 : Int} {x3 : Int} {x4 : Int} (n15 : inR x3) (kt : x3 = 0 → K 34 [none, none, some (vI x2), none, none, none] [] (sh, I, L) (0, 0)) (kf : ¬ (x3 = 0) → K 18 [none, none, some (vI x2), some (vI x3), some (vI x4), none] [] (sh, I, L) (0, 0)) : K 14 [none, none, some (vI x2), some (vI x3), some (vI x4), none] [] (sh, I, L) (0, 0) := by
  refine hK.1 14 [none, none, some (vI x2), some (vI x3), some (vI x4), none] [] (sh, I, L) (0, 0) ?_
  refine hK.1 15 [none, none, some (vI x2), some (vI x3), some (vI x4), none] [vI x3] (sh, I, L) (0, 0) ?_
  exact And.intro (n15) (And.intro (fun h => hK.2 [false, false, true, false, false, false] _ _ _ _ _ (kt h)) (fun h => hK.2 [false, false, true, true, true, false] _ _ _ _ _ (kf h)))
set_option maxRecDepth 4000 in
theorem B_X11_commonDivisor_18 {Q : oQ} {K : oK} (hK : oCl tb_X11_commonDivisor Q K) {sh : oS} {I : Nat → Nat → Int} {L : Nat → Nat → Int64} {x2 : Int} {x3 : Int} {x4 : Int} (n20a : inR x2) (n20b : inR x3) (z20 : 0 < x3) (k : K 7 [none, none, some (vI x3), some (vI (x2.tmod x3)), some (vI (x4 + 1)), none] [] (sh, I, L) (0, 0)) : K 18 [none, none, some (vI x2), some (vI x3), some (vI x4), none] [] (sh, I, L) (0, 0) := by
  refine hK.1 18 [none, none, some (vI x2), some (vI x3), some (vI x4), none] [] (sh, I, L) (0, 0) ?_
  refine hK.1 19 [none, none, some (vI x2), some (vI x3), some (vI x4), none] [vI x2] (sh, I, L) (0, 0) ?_
  refine hK.1 20 [none, none, some (vI x2), some (vI x3), some (vI x4), none] [vI x3, vI x2] (sh, I, L) (0, 0) ?_
  refine And.intro (And.intro n20a (And.intro n20b z20)) ?_
  refine hK.1 21 [none, none, some (vI x2), some (vI x3), some (vI x4), none] [vI (x2.tmod x3)] (sh, I, L) (0, 0) ?_
  refine hK.1 23 [none, none, some (vI x2), some (vI x3), some (vI x4), some (vI (x2.tmod x3))] [] (sh, I, L) (0, 0) ?_
  refine hK.1 24 [none, none, some (vI x2), some (vI x3), some (vI x4), some (vI (x2.tmod x3))] [vI x3] (sh, I, L) (0, 0) ?_
  refine hK.1 25 [none, none, some (vI x3), some (vI x3), some (vI x4), some (vI (x2.tmod x3))] [] (sh, I, L) (0, 0) ?_
  refine hK.1 27 [none, none, some (vI x3), some (vI x3), some (vI x4), some (vI (x2.tmod x3))] [vI (x2.tmod x3)] (sh, I, L) (0, 0) ?_
  refine hK.1 28 [none, none, some (vI x3), some (vI (x2.tmod x3)), some (vI x4), some (vI (x2.tmod x3))] [] (sh, I, L) (0, 0) ?_
  refine hK.1 31 [none, none, some (vI x3), some (vI (x2.tmod x3)), some (vI (x4 + 1)), some (vI (x2.tmod x3))] [] (sh, I, L) (0, 0) ?_
  refine hK.2 [false, false, true, true, true, false] _ _ _ _ _ ?_
  exact k
set_option maxRecDepth 4000 in
theorem B_X11_commonDivisor_34 {Q : oQ} {K : oK} (hK : oCl tb_X11_commonDivisor Q K) {sh : oS} {I : Nat → Nat → Int} {L : Nat → Nat → Int64} {x2 : Int} (k : Q (some (vI x2)) (sh, I, L)) : K 34 [none, none, some (vI x2), none, none, none] [] (sh, I, L) (0, 0) := by
  refine hK.1 34 [none, none, some (vI x2), none, none, none] [] (sh, I, L) (0, 0) ?_
  refine hK.1 35 [none, none, some (vI x2), none, none, none] [vI x2] (sh, I, L) (0, 0) ?_
  exact And.intro ⟨by decide, by decide⟩ k
set_option maxRecDepth 4000 in
theorem B_X11_count_0 {Q : oQ} {K : oK} (hK : oCl tb_X11_count Q K) {sh : oS} {I : Nat → Nat → Int} {L : Nat → Nat → Int64} {x1 : Int} (k : K (swT 0 [40, 48, 53, 58, 66, 71] 76 x1) [some (vR 0), none] [] (sh, I, L) (0, 0)) (n1 : inR x1) : K 0 [some (vR 0), some (vI x1)] [] (sh, I, L) (0, 0) := by
  refine hK.1 0 [some (vR 0), some (vI x1)] [] (sh, I, L) (0, 0) ?_
  refine hK.1 1 [some (vR 0), some (vI x1)] [vI x1] (sh, I, L) (0, 0) ?_
  exact And.intro n1 (hK.2 [true, false] _ _ _ _ _ k)
set_option maxRecDepth 4000 in
theorem B_X11_count_40 {Q : oQ} {K : oK} (hK : oCl tb_X11_count Q K) {sh : oS} (hs : Sh sh) {I : Nat → Nat → Int} {L : Nat → Nat → Int64}  (k : Q (some (vI (I 3 0))) (sh, I, L)) : K 40 [some (vR 0), none] [] (sh, I, L) (0, 0) := by
  refine hK.1 40 [some (vR 0), none] [] (sh, I, L) (0, 0) ?_
  refine hK.1 41 [some (vR 0), none] [vR 0] (sh, I, L) (0, 0) ?_
  refine And.intro (mem1 (sk_0 hs)) (Exists.intro 3 (And.intro (sr_0_1 hs) ?_))
  refine hK.1 44 [some (vR 0), none] [vR 3] (sh, I, L) (0, 0) ?_
  refine And.intro (mem1 (sk_3 hs)) ?_
  refine hK.1 47 [some (vR 0), none] [vI (I 3 0)] (sh, I, L) (0, 0) ?_
  exact And.intro ⟨by decide, by decide⟩ k
set_option maxRecDepth 4000 in
theorem B_X11_count_48 {Q : oQ} {K : oK} (hK : oCl tb_X11_count Q K) {sh : oS} (hs : Sh sh) {I : Nat → Nat → Int} {L : Nat → Nat → Int64}  (k : Q (some (vI (I 0 8))) (sh, I, L)) : K 48 [some (vR 0), none] [] (sh, I, L) (0, 0) := by
  refine hK.1 48 [some (vR 0), none] [] (sh, I, L) (0, 0) ?_
  refine hK.1 49 [some (vR 0), none] [vR 0] (sh, I, L) (0, 0) ?_
  refine And.intro (mem1 (sk_0 hs)) ?_
  refine hK.1 52 [some (vR 0), none] [vI (I 0 8)] (sh, I, L) (0, 0) ?_
  exact And.intro ⟨by decide, by decide⟩ k
set_option maxRecDepth 4000 in
theorem B_X11_count_53 {Q : oQ} {K : oK} (hK : oCl tb_X11_count Q K) {sh : oS} (hs : Sh sh) {I : Nat → Nat → Int} {L : Nat → Nat → Int64}  (k : Q (some (vI (I 0 9))) (sh, I, L)) : K 53 [some (vR 0), none] [] (sh, I, L) (0, 0) := by
  refine hK.1 53 [some (vR 0), none] [] (sh, I, L) (0, 0) ?_
  refine hK.1 54 [some (vR 0), none] [vR 0] (sh, I, L) (0, 0) ?_
  refine And.intro (mem1 (sk_0 hs)) ?_
  refine hK.1 57 [some (vR 0), none] [vI (I 0 9)] (sh, I, L) (0, 0) ?_
  exact And.intro ⟨by decide, by decide⟩ k
set_option maxRecDepth 4000 in
theorem B_X11_count_58 {Q : oQ} {K : oK} (hK : oCl tb_X11_count Q K) {sh : oS} (hs : Sh sh) {I : Nat → Nat → Int} {L : Nat → Nat → Int64}  (k : Q (some (vI (I 1 1))) (sh, I, L)) : K 58 [some (vR 0), none] [] (sh, I, L) (0, 0) := by
  refine hK.1 58 [some (vR 0), none] [] (sh, I, L) (0, 0) ?_
  refine hK.1 59 [some (vR 0), none] [vR 0] (sh, I, L) (0, 0) ?_
  refine And.intro (mem1 (sk_0 hs)) (Exists.intro 1 (And.intro (sr_0_0 hs) ?_))
  refine hK.1 62 [some (vR 0), none] [vR 1] (sh, I, L) (0, 0) ?_
  refine And.intro (mem1 (sk_1 hs)) ?_
  refine hK.1 65 [some (vR 0), none] [vI (I 1 1)] (sh, I, L) (0, 0) ?_
  exact And.intro ⟨by decide, by decide⟩ k
set_option maxRecDepth 4000 in
theorem B_X11_count_66 {Q : oQ} {K : oK} (hK : oCl tb_X11_count Q K) {sh : oS} (hs : Sh sh) {I : Nat → Nat → Int} {L : Nat → Nat → Int64}  (k : Q (some (vI (I 0 10))) (sh, I, L)) : K 66 [some (vR 0), none] [] (sh, I, L) (0, 0) := by
  refine hK.1 66 [some (vR 0), none] [] (sh, I, L) (0, 0) ?_
  refine hK.1 67 [some (vR 0), none] [vR 0] (sh, I, L) (0, 0) ?_
  refine And.intro (mem1 (sk_0 hs)) ?_
  refine hK.1 70 [some (vR 0), none] [vI (I 0 10)] (sh, I, L) (0, 0) ?_
  exact And.intro ⟨by decide, by decide⟩ k
set_option maxRecDepth 4000 in
theorem B_X11_count_71 {Q : oQ} {K : oK} (hK : oCl tb_X11_count Q K) {sh : oS} (hs : Sh sh) {I : Nat → Nat → Int} {L : Nat → Nat → Int64}  (k : Q (some (vI (I 0 11))) (sh, I, L)) : K 71 [some (vR 0), none] [] (sh, I, L) (0, 0) := by
  refine hK.1 71 [some (vR 0), none] [] (sh, I, L) (0, 0) ?_
  refine hK.1 72 [some (vR 0), none] [vR 0] (sh, I, L) (0, 0) ?_
  refine And.intro (mem1 (sk_0 hs)) ?_
  refine hK.1 75 [some (vR 0), none] [vI (I 0 11)] (sh, I, L) (0, 0) ?_
  exact And.intro ⟨by decide, by decide⟩ k
set_option maxRecDepth 4000 in
theorem B_X11_count_76 {Q : oQ} {K : oK} (hK : oCl tb_X11_count Q K) {sh : oS} {I : Nat → Nat → Int} {L : Nat → Nat → Int64}  (k : Q (some (vI (-102))) (sh, I, L)) : K 76 [none, none] [] (sh, I, L) (0, 0) := by
  refine hK.1 76 [none, none] [] (sh, I, L) (0, 0) ?_
  refine hK.1 78 [none, none] [vI (-102)] (sh, I, L) (0, 0) ?_
  exact And.intro ⟨by decide, by decide⟩ k
set_option maxRecDepth 4000 in
theorem B_X11_landTold_0 {Q : oQ} {K : oK} (hK : oCl tb_X11_landTold Q K) {sh : oS} (hs : Sh sh) {I : Nat → Nat → Int} {L : Nat → Nat → Int64} {x1 : Int} (n7 : inR (I 3 0)) (kt : ¬ I 3 0 = 0 → K 13 [some (vR 0), some (vI x1)] [] (sh, I, L) (0, 0)) (kf : ¬ (¬ I 3 0 = 0) → K 10 [none, none] [] (sh, I, L) (0, 0)) : K 0 [some (vR 0), some (vI x1)] [] (sh, I, L) (0, 0) := by
  refine hK.1 0 [some (vR 0), some (vI x1)] [] (sh, I, L) (0, 0) ?_
  refine hK.1 1 [some (vR 0), some (vI x1)] [vR 0] (sh, I, L) (0, 0) ?_
  refine And.intro (mem1 (sk_0 hs)) (Exists.intro 3 (And.intro (sr_0_1 hs) ?_))
  refine hK.1 4 [some (vR 0), some (vI x1)] [vR 3] (sh, I, L) (0, 0) ?_
  refine And.intro (mem1 (sk_3 hs)) ?_
  refine hK.1 7 [some (vR 0), some (vI x1)] [vI (I 3 0)] (sh, I, L) (0, 0) ?_
  exact And.intro (n7) (And.intro (fun h => hK.2 [true, true] _ _ _ _ _ (kt h)) (fun h => hK.2 [false, false] _ _ _ _ _ (kf h)))
set_option maxRecDepth 4000 in
theorem B_X11_landTold_10 {Q : oQ} {K : oK} (hK : oCl tb_X11_landTold Q K) {sh : oS} {I : Nat → Nat → Int} {L : Nat → Nat → Int64}  (k : Q (some (vI (-103))) (sh, I, L)) : K 10 [none, none] [] (sh, I, L) (0, 0) := by
  refine hK.1 10 [none, none] [] (sh, I, L) (0, 0) ?_
  refine hK.1 12 [none, none] [vI (-103)] (sh, I, L) (0, 0) ?_
  exact And.intro ⟨by decide, by decide⟩ k
set_option maxRecDepth 4000 in
theorem B_X11_landTold_13 {Q : oQ} {K : oK} (hK : oCl tb_X11_landTold Q K) {sh : oS} {I : Nat → Nat → Int} {L : Nat → Nat → Int64} {x1 : Int} (k : K (swT 0 [48, 56, 64, 72, 80] 88 x1) [some (vR 0), none] [] (sh, I, L) (0, 0)) (n14 : inR x1) : K 13 [some (vR 0), some (vI x1)] [] (sh, I, L) (0, 0) := by
  refine hK.1 13 [some (vR 0), some (vI x1)] [] (sh, I, L) (0, 0) ?_
  refine hK.1 14 [some (vR 0), some (vI x1)] [vI x1] (sh, I, L) (0, 0) ?_
  exact And.intro n14 (hK.2 [true, false] _ _ _ _ _ k)
set_option maxRecDepth 4000 in
theorem B_X11_landTold_48 {Q : oQ} {K : oK} (hK : oCl tb_X11_landTold Q K) {sh : oS} (hs : Sh sh) {I : Nat → Nat → Int} {L : Nat → Nat → Int64}  (k : Q (some (vI (I 3 0))) (sh, I, L)) : K 48 [some (vR 0), none] [] (sh, I, L) (0, 0) := by
  refine hK.1 48 [some (vR 0), none] [] (sh, I, L) (0, 0) ?_
  refine hK.1 49 [some (vR 0), none] [vR 0] (sh, I, L) (0, 0) ?_
  refine And.intro (mem1 (sk_0 hs)) (Exists.intro 3 (And.intro (sr_0_1 hs) ?_))
  refine hK.1 52 [some (vR 0), none] [vR 3] (sh, I, L) (0, 0) ?_
  refine And.intro (mem1 (sk_3 hs)) ?_
  refine hK.1 55 [some (vR 0), none] [vI (I 3 0)] (sh, I, L) (0, 0) ?_
  exact And.intro ⟨by decide, by decide⟩ k
set_option maxRecDepth 4000 in
theorem B_X11_landTold_56 {Q : oQ} {K : oK} (hK : oCl tb_X11_landTold Q K) {sh : oS} (hs : Sh sh) {I : Nat → Nat → Int} {L : Nat → Nat → Int64}  (k : Q (some (vI (I 3 3))) (sh, I, L)) : K 56 [some (vR 0), none] [] (sh, I, L) (0, 0) := by
  refine hK.1 56 [some (vR 0), none] [] (sh, I, L) (0, 0) ?_
  refine hK.1 57 [some (vR 0), none] [vR 0] (sh, I, L) (0, 0) ?_
  refine And.intro (mem1 (sk_0 hs)) (Exists.intro 3 (And.intro (sr_0_1 hs) ?_))
  refine hK.1 60 [some (vR 0), none] [vR 3] (sh, I, L) (0, 0) ?_
  refine And.intro (mem1 (sk_3 hs)) ?_
  refine hK.1 63 [some (vR 0), none] [vI (I 3 3)] (sh, I, L) (0, 0) ?_
  exact And.intro ⟨by decide, by decide⟩ k
set_option maxRecDepth 4000 in
theorem B_X11_landTold_64 {Q : oQ} {K : oK} (hK : oCl tb_X11_landTold Q K) {sh : oS} (hs : Sh sh) {I : Nat → Nat → Int} {L : Nat → Nat → Int64}  (k : Q (some (vI (I 3 4))) (sh, I, L)) : K 64 [some (vR 0), none] [] (sh, I, L) (0, 0) := by
  refine hK.1 64 [some (vR 0), none] [] (sh, I, L) (0, 0) ?_
  refine hK.1 65 [some (vR 0), none] [vR 0] (sh, I, L) (0, 0) ?_
  refine And.intro (mem1 (sk_0 hs)) (Exists.intro 3 (And.intro (sr_0_1 hs) ?_))
  refine hK.1 68 [some (vR 0), none] [vR 3] (sh, I, L) (0, 0) ?_
  refine And.intro (mem1 (sk_3 hs)) ?_
  refine hK.1 71 [some (vR 0), none] [vI (I 3 4)] (sh, I, L) (0, 0) ?_
  exact And.intro ⟨by decide, by decide⟩ k
set_option maxRecDepth 4000 in
theorem B_X11_landTold_72 {Q : oQ} {K : oK} (hK : oCl tb_X11_landTold Q K) {sh : oS} (hs : Sh sh) {I : Nat → Nat → Int} {L : Nat → Nat → Int64}  (k : Q (some (vI (I 3 5))) (sh, I, L)) : K 72 [some (vR 0), none] [] (sh, I, L) (0, 0) := by
  refine hK.1 72 [some (vR 0), none] [] (sh, I, L) (0, 0) ?_
  refine hK.1 73 [some (vR 0), none] [vR 0] (sh, I, L) (0, 0) ?_
  refine And.intro (mem1 (sk_0 hs)) (Exists.intro 3 (And.intro (sr_0_1 hs) ?_))
  refine hK.1 76 [some (vR 0), none] [vR 3] (sh, I, L) (0, 0) ?_
  refine And.intro (mem1 (sk_3 hs)) ?_
  refine hK.1 79 [some (vR 0), none] [vI (I 3 5)] (sh, I, L) (0, 0) ?_
  exact And.intro ⟨by decide, by decide⟩ k
set_option maxRecDepth 4000 in
theorem B_X11_landTold_80 {Q : oQ} {K : oK} (hK : oCl tb_X11_landTold Q K) {sh : oS} (hs : Sh sh) {I : Nat → Nat → Int} {L : Nat → Nat → Int64}  (k : Q (some (vI (I 3 6))) (sh, I, L)) : K 80 [some (vR 0), none] [] (sh, I, L) (0, 0) := by
  refine hK.1 80 [some (vR 0), none] [] (sh, I, L) (0, 0) ?_
  refine hK.1 81 [some (vR 0), none] [vR 0] (sh, I, L) (0, 0) ?_
  refine And.intro (mem1 (sk_0 hs)) (Exists.intro 3 (And.intro (sr_0_1 hs) ?_))
  refine hK.1 84 [some (vR 0), none] [vR 3] (sh, I, L) (0, 0) ?_
  refine And.intro (mem1 (sk_3 hs)) ?_
  refine hK.1 87 [some (vR 0), none] [vI (I 3 6)] (sh, I, L) (0, 0) ?_
  exact And.intro ⟨by decide, by decide⟩ k
set_option maxRecDepth 4000 in
theorem B_X11_landTold_88 {Q : oQ} {K : oK} (hK : oCl tb_X11_landTold Q K) {sh : oS} {I : Nat → Nat → Int} {L : Nat → Nat → Int64}  (k : Q (some (vI (-102))) (sh, I, L)) : K 88 [none, none] [] (sh, I, L) (0, 0) := by
  refine hK.1 88 [none, none] [] (sh, I, L) (0, 0) ?_
  refine hK.1 90 [none, none] [vI (-102)] (sh, I, L) (0, 0) ?_
  exact And.intro ⟨by decide, by decide⟩ k
set_option maxRecDepth 4000 in
theorem B_X11_landInto_0 {Q : oQ} {K : oK} (hK : oCl tb_X11_landInto Q K) {sh : oS} (hs : Sh sh) {I : Nat → Nat → Int} {L : Nat → Nat → Int64} {w1 : Int64} (n9 : inR (I 3 0)) (kt : ¬ I 3 0 = 0 → K 14 [some (vR 0), none, none, some (vL w1), none, none] [] (sh, I, L) (0, 0)) (kf : ¬ (¬ I 3 0 = 0) → K 12 [none, none, none, some (vL w1), none, none] [] (sh, I, L) (0, 0)) : K 0 [some (vR 0), some (vL w1), none, none, none, none] [] (sh, I, L) (0, 0) := by
  refine hK.1 0 [some (vR 0), some (vL w1), none, none, none, none] [] (sh, I, L) (0, 0) ?_
  refine hK.1 1 [some (vR 0), some (vL w1), none, none, none, none] [vL w1] (sh, I, L) (0, 0) ?_
  refine hK.1 2 [some (vR 0), some (vL w1), none, some (vL w1), none, none] [] (sh, I, L) (0, 0) ?_
  refine hK.1 3 [some (vR 0), some (vL w1), none, some (vL w1), none, none] [vR 0] (sh, I, L) (0, 0) ?_
  refine And.intro (mem1 (sk_0 hs)) (Exists.intro 3 (And.intro (sr_0_1 hs) ?_))
  refine hK.1 6 [some (vR 0), some (vL w1), none, some (vL w1), none, none] [vR 3] (sh, I, L) (0, 0) ?_
  refine And.intro (mem1 (sk_3 hs)) ?_
  refine hK.1 9 [some (vR 0), some (vL w1), none, some (vL w1), none, none] [vI (I 3 0)] (sh, I, L) (0, 0) ?_
  exact And.intro (n9) (And.intro (fun h => hK.2 [true, false, false, true, false, false] _ _ _ _ _ (kt h)) (fun h => hK.2 [false, false, false, true, false, false] _ _ _ _ _ (kf h)))
set_option maxRecDepth 4000 in
theorem B_X11_landInto_12 {Q : oQ} {K : oK} (hK : oCl tb_X11_landInto Q K) {sh : oS} {I : Nat → Nat → Int} {L : Nat → Nat → Int64} {w3 : Int64} (k : Q (some (vL w3)) (sh, I, L)) : K 12 [none, none, none, some (vL w3), none, none] [] (sh, I, L) (0, 0) := by
  refine hK.1 12 [none, none, none, some (vL w3), none, none] [] (sh, I, L) (0, 0) ?_
  refine hK.1 13 [none, none, none, some (vL w3), none, none] [vL w3] (sh, I, L) (0, 0) ?_
  exact And.intro ⟨by decide, by decide⟩ k
set_option maxRecDepth 4000 in
theorem B_X11_landInto_14 {Q : oQ} {K : oK} (hK : oCl tb_X11_landInto Q K) {sh : oS} {I : Nat → Nat → Int} {L : Nat → Nat → Int64} {w3 : Int64} (k : K 17 [some (vR 0), none, none, some (vL w3), none, some (vI 0)] [] (sh, I, L) (0, 0)) : K 14 [some (vR 0), none, none, some (vL w3), none, none] [] (sh, I, L) (0, 0) := by
  refine hK.1 14 [some (vR 0), none, none, some (vL w3), none, none] [] (sh, I, L) (0, 0) ?_
  refine hK.1 15 [some (vR 0), none, none, some (vL w3), none, none] [vI 0] (sh, I, L) (0, 0) ?_
  exact k
set_option maxRecDepth 4000 in
theorem B_X11_landInto_17 {Q : oQ} {K : oK} (hK : oCl tb_X11_landInto Q K) {sh : oS} {I : Nat → Nat → Int} {L : Nat → Nat → Int64} {w3 : Int64} {x5 : Int} (n20a : inR x5) (kt : 4 < x5 → K 43 [some (vR 0), none, none, some (vL w3), none, none] [] (sh, I, L) (0, 0)) (kf : ¬ (4 < x5) → K 23 [some (vR 0), none, none, some (vL w3), none, some (vI x5)] [] (sh, I, L) (0, 0)) : K 17 [some (vR 0), none, none, some (vL w3), none, some (vI x5)] [] (sh, I, L) (0, 0) := by
  refine hK.1 17 [some (vR 0), none, none, some (vL w3), none, some (vI x5)] [] (sh, I, L) (0, 0) ?_
  refine hK.1 19 [some (vR 0), none, none, some (vL w3), none, some (vI x5)] [vI x5] (sh, I, L) (0, 0) ?_
  refine hK.1 20 [some (vR 0), none, none, some (vL w3), none, some (vI x5)] [vI 4, vI x5] (sh, I, L) (0, 0) ?_
  exact And.intro (And.intro n20a ⟨by decide, by decide⟩) (And.intro (fun h => hK.2 [true, false, false, true, false, false] _ _ _ _ _ (kt h)) (fun h => hK.2 [true, false, false, true, false, true] _ _ _ _ _ (kf h)))
set_option maxRecDepth 4000 in
theorem B_X11_landInto_23 {Q : oQ} {K : oK} (hK : oCl tb_X11_landInto Q K) {sh : oS} (hs : Sh sh) {I : Nat → Nat → Int} {L : Nat → Nat → Int64} {w3 : Int64} {x5 : Int} (k : T_X11_landTold [vR 0, vI x5] (sh, I, L) (fun r mm => K 34 [some (vR 0), none, none, none, none, some (vI x5)] (r.toList ++ [vL (gMul 31 w3)]) mm (0, 0))) : K 23 [some (vR 0), none, none, some (vL w3), none, some (vI x5)] [] (sh, I, L) (0, 0) := by
  refine hK.1 23 [some (vR 0), none, none, some (vL w3), none, some (vI x5)] [] (sh, I, L) (0, 0) ?_
  refine hK.1 26 [some (vR 0), none, none, some (vL w3), none, some (vI x5)] [vL 31] (sh, I, L) (0, 0) ?_
  refine hK.1 27 [some (vR 0), none, none, some (vL w3), none, some (vI x5)] [vL w3, vL 31] (sh, I, L) (0, 0) ?_
  refine hK.1 28 [some (vR 0), none, none, some (vL w3), none, some (vI x5)] [vL (gMul 31 w3)] (sh, I, L) (0, 0) ?_
  refine hK.1 29 [some (vR 0), none, none, some (vL w3), none, some (vI x5)] [vR 0, vL (gMul 31 w3)] (sh, I, L) (0, 0) ?_
  refine hK.2 [true, false, false, false, false, true] _ _ _ _ _ ?_
  refine hK.1 31 [some (vR 0), none, none, none, none, some (vI x5)] [vI x5, vR 0, vL (gMul 31 w3)] (sh, I, L) (0, 0) ?_
  exact And.intro ⟨(sk_0 hs), Nat.le_of_ble_eq_true rfl, Nat.le_of_ble_eq_true rfl, Nat.le_of_ble_eq_true rfl, Nat.le_of_ble_eq_true rfl⟩ k
set_option maxRecDepth 4000 in
theorem B_X11_landInto_34 {Q : oQ} {K : oK} (hK : oCl tb_X11_landInto Q K) {sh : oS} {I : Nat → Nat → Int} {L : Nat → Nat → Int64} {x5 : Int} {s0 : Int64} {s1 : Int} (k : K 17 [some (vR 0), none, none, some (vL (gAdd s0 ((Int32.ofInt s1).toInt64))), none, some (vI (x5 + 1))] [] (sh, I, L) (0, 0)) : K 34 [some (vR 0), none, none, none, none, some (vI x5)] [vI s1, vL s0] (sh, I, L) (0, 0) := by
  refine hK.1 34 [some (vR 0), none, none, none, none, some (vI x5)] [vI s1, vL s0] (sh, I, L) (0, 0) ?_
  refine hK.1 35 [some (vR 0), none, none, none, none, some (vI x5)] [vL ((Int32.ofInt s1).toInt64), vL s0] (sh, I, L) (0, 0) ?_
  refine hK.1 36 [some (vR 0), none, none, none, none, some (vI x5)] [vL (gAdd s0 ((Int32.ofInt s1).toInt64))] (sh, I, L) (0, 0) ?_
  refine hK.1 37 [some (vR 0), none, none, some (vL (gAdd s0 ((Int32.ofInt s1).toInt64))), none, some (vI x5)] [] (sh, I, L) (0, 0) ?_
  refine hK.1 40 [some (vR 0), none, none, some (vL (gAdd s0 ((Int32.ofInt s1).toInt64))), none, some (vI (x5 + 1))] [] (sh, I, L) (0, 0) ?_
  exact k
set_option maxRecDepth 4000 in
theorem B_X11_landInto_43 {Q : oQ} {K : oK} (hK : oCl tb_X11_landInto Q K) {sh : oS} {I : Nat → Nat → Int} {L : Nat → Nat → Int64} {w3 : Int64} (k : K 46 [some (vR 0), none, none, some (vL w3), none, some (vI 0)] [] (sh, I, L) (0, 0)) : K 43 [some (vR 0), none, none, some (vL w3), none, none] [] (sh, I, L) (0, 0) := by
  refine hK.1 43 [some (vR 0), none, none, some (vL w3), none, none] [] (sh, I, L) (0, 0) ?_
  refine hK.1 44 [some (vR 0), none, none, some (vL w3), none, none] [vI 0] (sh, I, L) (0, 0) ?_
  exact k
set_option maxRecDepth 4000 in
theorem B_X11_landInto_46 {Q : oQ} {K : oK} (hK : oCl tb_X11_landInto Q K) {sh : oS} (hs : Sh sh) {I : Nat → Nat → Int} {L : Nat → Nat → Int64} {w3 : Int64} {x5 : Int} (n55a : inR x5) (n55b : inR (I 3 0)) (kt : I 3 0 ≤ x5 → K 100 [none, none, none, some (vL w3), none, none] [] (sh, I, L) (0, 0)) (kf : ¬ (I 3 0 ≤ x5) → K 58 [some (vR 0), none, none, some (vL w3), none, some (vI x5)] [] (sh, I, L) (0, 0)) : K 46 [some (vR 0), none, none, some (vL w3), none, some (vI x5)] [] (sh, I, L) (0, 0) := by
  refine hK.1 46 [some (vR 0), none, none, some (vL w3), none, some (vI x5)] [] (sh, I, L) (0, 0) ?_
  refine hK.1 48 [some (vR 0), none, none, some (vL w3), none, some (vI x5)] [vI x5] (sh, I, L) (0, 0) ?_
  refine hK.1 49 [some (vR 0), none, none, some (vL w3), none, some (vI x5)] [vR 0, vI x5] (sh, I, L) (0, 0) ?_
  refine And.intro (mem1 (sk_0 hs)) (Exists.intro 3 (And.intro (sr_0_1 hs) ?_))
  refine hK.1 52 [some (vR 0), none, none, some (vL w3), none, some (vI x5)] [vR 3, vI x5] (sh, I, L) (0, 0) ?_
  refine And.intro (mem1 (sk_3 hs)) ?_
  refine hK.1 55 [some (vR 0), none, none, some (vL w3), none, some (vI x5)] [vI (I 3 0), vI x5] (sh, I, L) (0, 0) ?_
  exact And.intro (And.intro n55a n55b) (And.intro (fun h => hK.2 [false, false, false, true, false, false] _ _ _ _ _ (kt h)) (fun h => hK.2 [true, false, false, true, false, true] _ _ _ _ _ (kf h)))
set_option maxRecDepth 4000 in
theorem B_X11_landInto_58 {Q : oQ} {K : oK} (hK : oCl tb_X11_landInto Q K) {sh : oS} (hs : Sh sh) {I : Nat → Nat → Int} {L : Nat → Nat → Int64} {w3 : Int64} {x5 : Int} (b72 : 0 ≤ x5 ∧ x5 < 8) (k : K 46 [some (vR 0), none, none, some (vL (gAdd (gMul 31 (gAdd (gMul 31 w3) ((Int32.ofInt (I 4 (x5.toNat))).toInt64))) ((Int32.ofInt (I 5 (x5.toNat))).toInt64))), none, some (vI (x5 + 1))] [] (sh, I, L) (0, 0)) : K 58 [some (vR 0), none, none, some (vL w3), none, some (vI x5)] [] (sh, I, L) (0, 0) := by
  refine hK.1 58 [some (vR 0), none, none, some (vL w3), none, some (vI x5)] [] (sh, I, L) (0, 0) ?_
  refine hK.1 61 [some (vR 0), none, none, some (vL w3), none, some (vI x5)] [vL 31] (sh, I, L) (0, 0) ?_
  refine hK.1 62 [some (vR 0), none, none, some (vL w3), none, some (vI x5)] [vL w3, vL 31] (sh, I, L) (0, 0) ?_
  refine hK.1 63 [some (vR 0), none, none, some (vL w3), none, some (vI x5)] [vL (gMul 31 w3)] (sh, I, L) (0, 0) ?_
  refine hK.1 64 [some (vR 0), none, none, some (vL w3), none, some (vI x5)] [vR 0, vL (gMul 31 w3)] (sh, I, L) (0, 0) ?_
  refine And.intro (mem1 (sk_0 hs)) (Exists.intro 3 (And.intro (sr_0_1 hs) ?_))
  refine hK.1 67 [some (vR 0), none, none, some (vL w3), none, some (vI x5)] [vR 3, vL (gMul 31 w3)] (sh, I, L) (0, 0) ?_
  refine And.intro (mem1 (sk_3 hs)) (Exists.intro 4 (And.intro (sr_3_1 hs) ?_))
  refine hK.1 70 [some (vR 0), none, none, some (vL w3), none, some (vI x5)] [vR 4, vL (gMul 31 w3)] (sh, I, L) (0, 0) ?_
  refine hK.1 72 [some (vR 0), none, none, some (vL w3), none, some (vI x5)] [vI x5, vR 4, vL (gMul 31 w3)] (sh, I, L) (0, 0) ?_
  refine And.intro (And.intro (sk_4 hs) (ixL (sl_4 hs) b72)) ?_
  refine hK.1 73 [some (vR 0), none, none, some (vL w3), none, some (vI x5)] [vI (I 4 (x5.toNat)), vL (gMul 31 w3)] (sh, I, L) (0, 0) ?_
  refine hK.1 74 [some (vR 0), none, none, some (vL w3), none, some (vI x5)] [vL ((Int32.ofInt (I 4 (x5.toNat))).toInt64), vL (gMul 31 w3)] (sh, I, L) (0, 0) ?_
  refine hK.1 75 [some (vR 0), none, none, some (vL w3), none, some (vI x5)] [vL (gAdd (gMul 31 w3) ((Int32.ofInt (I 4 (x5.toNat))).toInt64))] (sh, I, L) (0, 0) ?_
  refine hK.1 76 [some (vR 0), none, none, some (vL (gAdd (gMul 31 w3) ((Int32.ofInt (I 4 (x5.toNat))).toInt64))), none, some (vI x5)] [] (sh, I, L) (0, 0) ?_
  refine hK.1 79 [some (vR 0), none, none, some (vL (gAdd (gMul 31 w3) ((Int32.ofInt (I 4 (x5.toNat))).toInt64))), none, some (vI x5)] [vL 31] (sh, I, L) (0, 0) ?_
  refine hK.1 80 [some (vR 0), none, none, some (vL (gAdd (gMul 31 w3) ((Int32.ofInt (I 4 (x5.toNat))).toInt64))), none, some (vI x5)] [vL (gAdd (gMul 31 w3) ((Int32.ofInt (I 4 (x5.toNat))).toInt64)), vL 31] (sh, I, L) (0, 0) ?_
  refine hK.1 81 [some (vR 0), none, none, some (vL (gAdd (gMul 31 w3) ((Int32.ofInt (I 4 (x5.toNat))).toInt64))), none, some (vI x5)] [vL (gMul 31 (gAdd (gMul 31 w3) ((Int32.ofInt (I 4 (x5.toNat))).toInt64)))] (sh, I, L) (0, 0) ?_
  refine hK.1 82 [some (vR 0), none, none, some (vL (gAdd (gMul 31 w3) ((Int32.ofInt (I 4 (x5.toNat))).toInt64))), none, some (vI x5)] [vR 0, vL (gMul 31 (gAdd (gMul 31 w3) ((Int32.ofInt (I 4 (x5.toNat))).toInt64)))] (sh, I, L) (0, 0) ?_
  refine And.intro (mem1 (sk_0 hs)) (Exists.intro 3 (And.intro (sr_0_1 hs) ?_))
  refine hK.1 85 [some (vR 0), none, none, some (vL (gAdd (gMul 31 w3) ((Int32.ofInt (I 4 (x5.toNat))).toInt64))), none, some (vI x5)] [vR 3, vL (gMul 31 (gAdd (gMul 31 w3) ((Int32.ofInt (I 4 (x5.toNat))).toInt64)))] (sh, I, L) (0, 0) ?_
  refine And.intro (mem1 (sk_3 hs)) (Exists.intro 5 (And.intro (sr_3_2 hs) ?_))
  refine hK.1 88 [some (vR 0), none, none, some (vL (gAdd (gMul 31 w3) ((Int32.ofInt (I 4 (x5.toNat))).toInt64))), none, some (vI x5)] [vR 5, vL (gMul 31 (gAdd (gMul 31 w3) ((Int32.ofInt (I 4 (x5.toNat))).toInt64)))] (sh, I, L) (0, 0) ?_
  refine hK.1 90 [some (vR 0), none, none, some (vL (gAdd (gMul 31 w3) ((Int32.ofInt (I 4 (x5.toNat))).toInt64))), none, some (vI x5)] [vI x5, vR 5, vL (gMul 31 (gAdd (gMul 31 w3) ((Int32.ofInt (I 4 (x5.toNat))).toInt64)))] (sh, I, L) (0, 0) ?_
  refine And.intro (And.intro (sk_5 hs) (ixL (sl_5 hs) b72)) ?_
  refine hK.1 91 [some (vR 0), none, none, some (vL (gAdd (gMul 31 w3) ((Int32.ofInt (I 4 (x5.toNat))).toInt64))), none, some (vI x5)] [vI (I 5 (x5.toNat)), vL (gMul 31 (gAdd (gMul 31 w3) ((Int32.ofInt (I 4 (x5.toNat))).toInt64)))] (sh, I, L) (0, 0) ?_
  refine hK.1 92 [some (vR 0), none, none, some (vL (gAdd (gMul 31 w3) ((Int32.ofInt (I 4 (x5.toNat))).toInt64))), none, some (vI x5)] [vL ((Int32.ofInt (I 5 (x5.toNat))).toInt64), vL (gMul 31 (gAdd (gMul 31 w3) ((Int32.ofInt (I 4 (x5.toNat))).toInt64)))] (sh, I, L) (0, 0) ?_
  refine hK.1 93 [some (vR 0), none, none, some (vL (gAdd (gMul 31 w3) ((Int32.ofInt (I 4 (x5.toNat))).toInt64))), none, some (vI x5)] [vL (gAdd (gMul 31 (gAdd (gMul 31 w3) ((Int32.ofInt (I 4 (x5.toNat))).toInt64))) ((Int32.ofInt (I 5 (x5.toNat))).toInt64))] (sh, I, L) (0, 0) ?_
  refine hK.1 94 [some (vR 0), none, none, some (vL (gAdd (gMul 31 (gAdd (gMul 31 w3) ((Int32.ofInt (I 4 (x5.toNat))).toInt64))) ((Int32.ofInt (I 5 (x5.toNat))).toInt64))), none, some (vI x5)] [] (sh, I, L) (0, 0) ?_
  refine hK.1 97 [some (vR 0), none, none, some (vL (gAdd (gMul 31 (gAdd (gMul 31 w3) ((Int32.ofInt (I 4 (x5.toNat))).toInt64))) ((Int32.ofInt (I 5 (x5.toNat))).toInt64))), none, some (vI (x5 + 1))] [] (sh, I, L) (0, 0) ?_
  exact k
set_option maxRecDepth 4000 in
theorem B_X11_landInto_100 {Q : oQ} {K : oK} (hK : oCl tb_X11_landInto Q K) {sh : oS} {I : Nat → Nat → Int} {L : Nat → Nat → Int64} {w3 : Int64} (k : Q (some (vL w3)) (sh, I, L)) : K 100 [none, none, none, some (vL w3), none, none] [] (sh, I, L) (0, 0) := by
  refine hK.1 100 [none, none, none, some (vL w3), none, none] [] (sh, I, L) (0, 0) ?_
  refine hK.1 101 [none, none, none, some (vL w3), none, none] [vL w3] (sh, I, L) (0, 0) ?_
  exact And.intro ⟨by decide, by decide⟩ k
set_option maxRecDepth 4000 in
theorem B_X11_marchInto_0 {Q : oQ} {K : oK} (hK : oCl tb_X11_marchInto Q K) {sh : oS} {I : Nat → Nat → Int} {L : Nat → Nat → Int64} {w1 : Int64} {h3 : Nat} {h3e h3p h3t : Nat} (Ah3 : MarchAt sh h3 h3e h3p h3t) (k : K 16 [some (vR 0), none, none, some (vR h3), some (vL (gAdd (gMul 31 w1) ((Int32.ofInt (I h3 0)).toInt64))), none, some (vI 0)] [] (sh, I, L) (0, 0)) : K 0 [some (vR 0), some (vL w1), none, some (vR h3), none, none, none] [] (sh, I, L) (0, 0) := by
  refine hK.1 0 [some (vR 0), some (vL w1), none, some (vR h3), none, none, none] [] (sh, I, L) (0, 0) ?_
  refine hK.1 3 [some (vR 0), some (vL w1), none, some (vR h3), none, none, none] [vL 31] (sh, I, L) (0, 0) ?_
  refine hK.1 4 [some (vR 0), some (vL w1), none, some (vR h3), none, none, none] [vL w1, vL 31] (sh, I, L) (0, 0) ?_
  refine hK.1 5 [some (vR 0), some (vL w1), none, some (vR h3), none, none, none] [vL (gMul 31 w1)] (sh, I, L) (0, 0) ?_
  refine hK.1 6 [some (vR 0), some (vL w1), none, some (vR h3), none, none, none] [vR h3, vL (gMul 31 w1)] (sh, I, L) (0, 0) ?_
  refine And.intro (mem1 Ah3.1) ?_
  refine hK.1 9 [some (vR 0), some (vL w1), none, some (vR h3), none, none, none] [vI (I h3 0), vL (gMul 31 w1)] (sh, I, L) (0, 0) ?_
  refine hK.1 10 [some (vR 0), some (vL w1), none, some (vR h3), none, none, none] [vL ((Int32.ofInt (I h3 0)).toInt64), vL (gMul 31 w1)] (sh, I, L) (0, 0) ?_
  refine hK.1 11 [some (vR 0), some (vL w1), none, some (vR h3), none, none, none] [vL (gAdd (gMul 31 w1) ((Int32.ofInt (I h3 0)).toInt64))] (sh, I, L) (0, 0) ?_
  refine hK.1 13 [some (vR 0), some (vL w1), none, some (vR h3), some (vL (gAdd (gMul 31 w1) ((Int32.ofInt (I h3 0)).toInt64))), none, none] [] (sh, I, L) (0, 0) ?_
  refine hK.1 14 [some (vR 0), some (vL w1), none, some (vR h3), some (vL (gAdd (gMul 31 w1) ((Int32.ofInt (I h3 0)).toInt64))), none, none] [vI 0] (sh, I, L) (0, 0) ?_
  refine hK.2 [true, false, false, true, true, false, true] _ _ _ _ _ ?_
  exact k
set_option maxRecDepth 4000 in
theorem B_X11_marchInto_16 {Q : oQ} {K : oK} (hK : oCl tb_X11_marchInto Q K) {sh : oS} {I : Nat → Nat → Int} {L : Nat → Nat → Int64} {h3 : Nat} {w4 : Int64} {x6 : Int} {h3e h3p h3t : Nat} (Ah3 : MarchAt sh h3 h3e h3p h3t) (n22a : inR x6) (n22b : inR (I h3 0)) (kt : I h3 0 ≤ x6 → K 48 [some (vR 0), none, none, some (vR h3), some (vL w4), none, none] [] (sh, I, L) (0, 0)) (kf : ¬ (I h3 0 ≤ x6) → K 25 [some (vR 0), none, none, some (vR h3), some (vL w4), none, some (vI x6)] [] (sh, I, L) (0, 0)) : K 16 [some (vR 0), none, none, some (vR h3), some (vL w4), none, some (vI x6)] [] (sh, I, L) (0, 0) := by
  refine hK.1 16 [some (vR 0), none, none, some (vR h3), some (vL w4), none, some (vI x6)] [] (sh, I, L) (0, 0) ?_
  refine hK.1 18 [some (vR 0), none, none, some (vR h3), some (vL w4), none, some (vI x6)] [vI x6] (sh, I, L) (0, 0) ?_
  refine hK.1 19 [some (vR 0), none, none, some (vR h3), some (vL w4), none, some (vI x6)] [vR h3, vI x6] (sh, I, L) (0, 0) ?_
  refine And.intro (mem1 Ah3.1) ?_
  refine hK.1 22 [some (vR 0), none, none, some (vR h3), some (vL w4), none, some (vI x6)] [vI (I h3 0), vI x6] (sh, I, L) (0, 0) ?_
  exact And.intro (And.intro n22a n22b) (And.intro (fun h => hK.2 [true, false, false, true, true, false, false] _ _ _ _ _ (kt h)) (fun h => hK.2 [true, false, false, true, true, false, true] _ _ _ _ _ (kf h)))
set_option maxRecDepth 4000 in
theorem B_X11_marchInto_25 {Q : oQ} {K : oK} (hK : oCl tb_X11_marchInto Q K) {sh : oS} {I : Nat → Nat → Int} {L : Nat → Nat → Int64} {h3 : Nat} {w4 : Int64} {x6 : Int} {h3e h3p h3t : Nat} (Ah3 : MarchAt sh h3 h3e h3p h3t) (b37 : 0 ≤ x6 ∧ x6 < 10) (k : K 16 [some (vR 0), none, none, some (vR h3), some (vL (gAdd (gMul 31 w4) ((Int32.ofInt (I h3e (x6.toNat))).toInt64))), none, some (vI (x6 + 1))] [] (sh, I, L) (0, 0)) : K 25 [some (vR 0), none, none, some (vR h3), some (vL w4), none, some (vI x6)] [] (sh, I, L) (0, 0) := by
  refine hK.1 25 [some (vR 0), none, none, some (vR h3), some (vL w4), none, some (vI x6)] [] (sh, I, L) (0, 0) ?_
  refine hK.1 28 [some (vR 0), none, none, some (vR h3), some (vL w4), none, some (vI x6)] [vL 31] (sh, I, L) (0, 0) ?_
  refine hK.1 30 [some (vR 0), none, none, some (vR h3), some (vL w4), none, some (vI x6)] [vL w4, vL 31] (sh, I, L) (0, 0) ?_
  refine hK.1 31 [some (vR 0), none, none, some (vR h3), some (vL w4), none, some (vI x6)] [vL (gMul 31 w4)] (sh, I, L) (0, 0) ?_
  refine hK.1 32 [some (vR 0), none, none, some (vR h3), some (vL w4), none, some (vI x6)] [vR h3, vL (gMul 31 w4)] (sh, I, L) (0, 0) ?_
  refine And.intro (mem1 Ah3.1) (Exists.intro h3e (And.intro Ah3.2.1 ?_))
  refine hK.1 35 [some (vR 0), none, none, some (vR h3), some (vL w4), none, some (vI x6)] [vR h3e, vL (gMul 31 w4)] (sh, I, L) (0, 0) ?_
  refine hK.1 37 [some (vR 0), none, none, some (vR h3), some (vL w4), none, some (vI x6)] [vI x6, vR h3e, vL (gMul 31 w4)] (sh, I, L) (0, 0) ?_
  refine And.intro (And.intro (Ah3.2.2.2.2.1.1) (ixL (Ah3.2.2.2.2.1.2) b37)) ?_
  refine hK.1 38 [some (vR 0), none, none, some (vR h3), some (vL w4), none, some (vI x6)] [vI (I h3e (x6.toNat)), vL (gMul 31 w4)] (sh, I, L) (0, 0) ?_
  refine hK.1 39 [some (vR 0), none, none, some (vR h3), some (vL w4), none, some (vI x6)] [vL ((Int32.ofInt (I h3e (x6.toNat))).toInt64), vL (gMul 31 w4)] (sh, I, L) (0, 0) ?_
  refine hK.1 40 [some (vR 0), none, none, some (vR h3), some (vL w4), none, some (vI x6)] [vL (gAdd (gMul 31 w4) ((Int32.ofInt (I h3e (x6.toNat))).toInt64))] (sh, I, L) (0, 0) ?_
  refine hK.1 42 [some (vR 0), none, none, some (vR h3), some (vL (gAdd (gMul 31 w4) ((Int32.ofInt (I h3e (x6.toNat))).toInt64))), none, some (vI x6)] [] (sh, I, L) (0, 0) ?_
  refine hK.1 45 [some (vR 0), none, none, some (vR h3), some (vL (gAdd (gMul 31 w4) ((Int32.ofInt (I h3e (x6.toNat))).toInt64))), none, some (vI (x6 + 1))] [] (sh, I, L) (0, 0) ?_
  exact k
set_option maxRecDepth 4000 in
theorem B_X11_marchInto_48 {Q : oQ} {K : oK} (hK : oCl tb_X11_marchInto Q K) {sh : oS} {I : Nat → Nat → Int} {L : Nat → Nat → Int64} {h3 : Nat} {w4 : Int64} (k : K 51 [some (vR 0), none, none, some (vR h3), some (vL w4), none, some (vI 0)] [] (sh, I, L) (0, 0)) : K 48 [some (vR 0), none, none, some (vR h3), some (vL w4), none, none] [] (sh, I, L) (0, 0) := by
  refine hK.1 48 [some (vR 0), none, none, some (vR h3), some (vL w4), none, none] [] (sh, I, L) (0, 0) ?_
  refine hK.1 49 [some (vR 0), none, none, some (vR h3), some (vL w4), none, none] [vI 0] (sh, I, L) (0, 0) ?_
  exact k
set_option maxRecDepth 4000 in
theorem B_X11_marchInto_51 {Q : oQ} {K : oK} (hK : oCl tb_X11_marchInto Q K) {sh : oS} {I : Nat → Nat → Int} {L : Nat → Nat → Int64} {h3 : Nat} {w4 : Int64} {x6 : Int} {h3e h3p h3t : Nat} (Ah3 : MarchAt sh h3 h3e h3p h3t) (n57a : inR x6) (n57b : inR (I h3 1)) (kt : I h3 1 ≤ x6 → K 83 [some (vR 0), none, none, some (vR h3), some (vL w4), none, none] [] (sh, I, L) (0, 0)) (kf : ¬ (I h3 1 ≤ x6) → K 60 [some (vR 0), none, none, some (vR h3), some (vL w4), none, some (vI x6)] [] (sh, I, L) (0, 0)) : K 51 [some (vR 0), none, none, some (vR h3), some (vL w4), none, some (vI x6)] [] (sh, I, L) (0, 0) := by
  refine hK.1 51 [some (vR 0), none, none, some (vR h3), some (vL w4), none, some (vI x6)] [] (sh, I, L) (0, 0) ?_
  refine hK.1 53 [some (vR 0), none, none, some (vR h3), some (vL w4), none, some (vI x6)] [vI x6] (sh, I, L) (0, 0) ?_
  refine hK.1 54 [some (vR 0), none, none, some (vR h3), some (vL w4), none, some (vI x6)] [vR h3, vI x6] (sh, I, L) (0, 0) ?_
  refine And.intro (mem1 Ah3.1) ?_
  refine hK.1 57 [some (vR 0), none, none, some (vR h3), some (vL w4), none, some (vI x6)] [vI (I h3 1), vI x6] (sh, I, L) (0, 0) ?_
  exact And.intro (And.intro n57a n57b) (And.intro (fun h => hK.2 [true, false, false, true, true, false, false] _ _ _ _ _ (kt h)) (fun h => hK.2 [true, false, false, true, true, false, true] _ _ _ _ _ (kf h)))
set_option maxRecDepth 4000 in
theorem B_X11_marchInto_60 {Q : oQ} {K : oK} (hK : oCl tb_X11_marchInto Q K) {sh : oS} {I : Nat → Nat → Int} {L : Nat → Nat → Int64} {h3 : Nat} {w4 : Int64} {x6 : Int} {h3e h3p h3t : Nat} (Ah3 : MarchAt sh h3 h3e h3p h3t) (b72 : 0 ≤ x6 ∧ x6 < 2) (k : K 51 [some (vR 0), none, none, some (vR h3), some (vL (gAdd (gMul 31 w4) ((Int32.ofInt (I h3t (x6.toNat))).toInt64))), none, some (vI (x6 + 1))] [] (sh, I, L) (0, 0)) : K 60 [some (vR 0), none, none, some (vR h3), some (vL w4), none, some (vI x6)] [] (sh, I, L) (0, 0) := by
  refine hK.1 60 [some (vR 0), none, none, some (vR h3), some (vL w4), none, some (vI x6)] [] (sh, I, L) (0, 0) ?_
  refine hK.1 63 [some (vR 0), none, none, some (vR h3), some (vL w4), none, some (vI x6)] [vL 31] (sh, I, L) (0, 0) ?_
  refine hK.1 65 [some (vR 0), none, none, some (vR h3), some (vL w4), none, some (vI x6)] [vL w4, vL 31] (sh, I, L) (0, 0) ?_
  refine hK.1 66 [some (vR 0), none, none, some (vR h3), some (vL w4), none, some (vI x6)] [vL (gMul 31 w4)] (sh, I, L) (0, 0) ?_
  refine hK.1 67 [some (vR 0), none, none, some (vR h3), some (vL w4), none, some (vI x6)] [vR h3, vL (gMul 31 w4)] (sh, I, L) (0, 0) ?_
  refine And.intro (mem1 Ah3.1) (Exists.intro h3t (And.intro Ah3.2.2.2.1 ?_))
  refine hK.1 70 [some (vR 0), none, none, some (vR h3), some (vL w4), none, some (vI x6)] [vR h3t, vL (gMul 31 w4)] (sh, I, L) (0, 0) ?_
  refine hK.1 72 [some (vR 0), none, none, some (vR h3), some (vL w4), none, some (vI x6)] [vI x6, vR h3t, vL (gMul 31 w4)] (sh, I, L) (0, 0) ?_
  refine And.intro (And.intro (Ah3.2.2.2.2.2.2.1) (ixL (Ah3.2.2.2.2.2.2.2) b72)) ?_
  refine hK.1 73 [some (vR 0), none, none, some (vR h3), some (vL w4), none, some (vI x6)] [vI (I h3t (x6.toNat)), vL (gMul 31 w4)] (sh, I, L) (0, 0) ?_
  refine hK.1 74 [some (vR 0), none, none, some (vR h3), some (vL w4), none, some (vI x6)] [vL ((Int32.ofInt (I h3t (x6.toNat))).toInt64), vL (gMul 31 w4)] (sh, I, L) (0, 0) ?_
  refine hK.1 75 [some (vR 0), none, none, some (vR h3), some (vL w4), none, some (vI x6)] [vL (gAdd (gMul 31 w4) ((Int32.ofInt (I h3t (x6.toNat))).toInt64))] (sh, I, L) (0, 0) ?_
  refine hK.1 77 [some (vR 0), none, none, some (vR h3), some (vL (gAdd (gMul 31 w4) ((Int32.ofInt (I h3t (x6.toNat))).toInt64))), none, some (vI x6)] [] (sh, I, L) (0, 0) ?_
  refine hK.1 80 [some (vR 0), none, none, some (vR h3), some (vL (gAdd (gMul 31 w4) ((Int32.ofInt (I h3t (x6.toNat))).toInt64))), none, some (vI (x6 + 1))] [] (sh, I, L) (0, 0) ?_
  exact k
set_option maxRecDepth 4000 in
theorem B_X11_marchInto_83 {Q : oQ} {K : oK} (hK : oCl tb_X11_marchInto Q K) {sh : oS} (hs : Sh sh) {I : Nat → Nat → Int} {L : Nat → Nat → Int64} {h3 : Nat} {w4 : Int64} (n90 : inR (I 3 0)) (kt : I 3 0 ≤ 0 → K 153 [none, none, none, none, some (vL w4), none, none] [] (sh, I, L) (0, 0)) (kf : ¬ (I 3 0 ≤ 0) → K 93 [some (vR 0), none, none, some (vR h3), some (vL w4), none, none] [] (sh, I, L) (0, 0)) : K 83 [some (vR 0), none, none, some (vR h3), some (vL w4), none, none] [] (sh, I, L) (0, 0) := by
  refine hK.1 83 [some (vR 0), none, none, some (vR h3), some (vL w4), none, none] [] (sh, I, L) (0, 0) ?_
  refine hK.1 84 [some (vR 0), none, none, some (vR h3), some (vL w4), none, none] [vR 0] (sh, I, L) (0, 0) ?_
  refine And.intro (mem1 (sk_0 hs)) (Exists.intro 3 (And.intro (sr_0_1 hs) ?_))
  refine hK.1 87 [some (vR 0), none, none, some (vR h3), some (vL w4), none, none] [vR 3] (sh, I, L) (0, 0) ?_
  refine And.intro (mem1 (sk_3 hs)) ?_
  refine hK.1 90 [some (vR 0), none, none, some (vR h3), some (vL w4), none, none] [vI (I 3 0)] (sh, I, L) (0, 0) ?_
  exact And.intro (n90) (And.intro (fun h => hK.2 [false, false, false, false, true, false, false] _ _ _ _ _ (kt h)) (fun h => hK.2 [true, false, false, true, true, false, false] _ _ _ _ _ (kf h)))
set_option maxRecDepth 4000 in
theorem B_X11_marchInto_93 {Q : oQ} {K : oK} (hK : oCl tb_X11_marchInto Q K) {sh : oS} (hs : Sh sh) {I : Nat → Nat → Int} {L : Nat → Nat → Int64} {h3 : Nat} {w4 : Int64} {h3e h3p h3t : Nat} (k : T_X6_wayOn [vR h3] (sh, I, L) (fun r mm => K 105 [some (vR 0), none, none, some (vR h3), some (vL w4), none, none] (r.toList ++ [vI (I 3 0), vR h3]) mm (0, 0))) (Ah3 : MarchAt sh h3 h3e h3p h3t) : K 93 [some (vR 0), none, none, some (vR h3), some (vL w4), none, none] [] (sh, I, L) (0, 0) := by
  refine hK.1 93 [some (vR 0), none, none, some (vR h3), some (vL w4), none, none] [] (sh, I, L) (0, 0) ?_
  refine hK.1 94 [some (vR 0), none, none, some (vR h3), some (vL w4), none, none] [vR h3] (sh, I, L) (0, 0) ?_
  refine hK.1 95 [some (vR 0), none, none, some (vR h3), some (vL w4), none, none] [vR 0, vR h3] (sh, I, L) (0, 0) ?_
  refine And.intro (mem1 (sk_0 hs)) (Exists.intro 3 (And.intro (sr_0_1 hs) ?_))
  refine hK.1 98 [some (vR 0), none, none, some (vR h3), some (vL w4), none, none] [vR 3, vR h3] (sh, I, L) (0, 0) ?_
  refine And.intro (mem1 (sk_3 hs)) ?_
  refine hK.1 101 [some (vR 0), none, none, some (vR h3), some (vL w4), none, none] [vI (I 3 0), vR h3] (sh, I, L) (0, 0) ?_
  refine hK.1 102 [some (vR 0), none, none, some (vR h3), some (vL w4), none, none] [vR h3, vI (I 3 0), vR h3] (sh, I, L) (0, 0) ?_
  exact And.intro ⟨Ah3.1, Nat.le_of_ble_eq_true rfl, Nat.le_of_ble_eq_true rfl, Nat.le_of_ble_eq_true rfl, Nat.le_of_ble_eq_true rfl⟩ k
set_option maxRecDepth 4000 in
theorem B_X11_marchInto_105 {Q : oQ} {K : oK} (hK : oCl tb_X11_marchInto Q K) {sh : oS} (hs : Sh sh) {I : Nat → Nat → Int} {L : Nat → Nat → Int64} {h3 : Nat} {w4 : Int64} {s0 : Nat} {s1 : Int} {s2 : Int} {s0e s0p s0t : Nat} (k : T_X6_walk [vR s0, vI s1, vI s2, vR 29] (sh, I, L) (fun r mm => K 115 [some (vR 0), none, none, some (vR h3), some (vL w4), none, none] (r.toList ++ []) mm (0, 0))) (As0 : MarchAt sh s0 s0e s0p s0t) : K 105 [some (vR 0), none, none, some (vR h3), some (vL w4), none, none] [vI s2, vI s1, vR s0] (sh, I, L) (0, 0) := by
  refine hK.1 105 [some (vR 0), none, none, some (vR h3), some (vL w4), none, none] [vI s2, vI s1, vR s0] (sh, I, L) (0, 0) ?_
  refine hK.1 106 [some (vR 0), none, none, some (vR h3), some (vL w4), none, none] [vR 0, vI s2, vI s1, vR s0] (sh, I, L) (0, 0) ?_
  refine And.intro (mem1 (sk_0 hs)) (Exists.intro 24 (And.intro (sr_0_14 hs) ?_))
  refine hK.1 109 [some (vR 0), none, none, some (vR h3), some (vL w4), none, none] [vR 24, vI s2, vI s1, vR s0] (sh, I, L) (0, 0) ?_
  refine And.intro (mem1 (sk_24 hs)) (Exists.intro 29 (And.intro (sr_24_1 hs) ?_))
  refine hK.1 112 [some (vR 0), none, none, some (vR h3), some (vL w4), none, none] [vR 29, vI s2, vI s1, vR s0] (sh, I, L) (0, 0) ?_
  exact And.intro ⟨As0.1, Nat.le_of_ble_eq_true rfl, Nat.le_of_ble_eq_true rfl, Nat.le_of_ble_eq_true rfl, Nat.le_of_ble_eq_true rfl⟩ k
set_option maxRecDepth 4000 in
theorem B_X11_marchInto_115 {Q : oQ} {K : oK} (hK : oCl tb_X11_marchInto Q K) {sh : oS} {I : Nat → Nat → Int} {L : Nat → Nat → Int64} {h3 : Nat} {w4 : Int64} (k : K 118 [some (vR 0), none, none, some (vR h3), some (vL w4), none, some (vI 0)] [] (sh, I, L) (0, 0)) : K 115 [some (vR 0), none, none, some (vR h3), some (vL w4), none, none] [] (sh, I, L) (0, 0) := by
  refine hK.1 115 [some (vR 0), none, none, some (vR h3), some (vL w4), none, none] [] (sh, I, L) (0, 0) ?_
  refine hK.1 116 [some (vR 0), none, none, some (vR h3), some (vL w4), none, none] [vI 0] (sh, I, L) (0, 0) ?_
  exact k
set_option maxRecDepth 4000 in
theorem B_X11_marchInto_118 {Q : oQ} {K : oK} (hK : oCl tb_X11_marchInto Q K) {sh : oS} {I : Nat → Nat → Int} {L : Nat → Nat → Int64} {h3 : Nat} {w4 : Int64} {x6 : Int} {h3e h3p h3t : Nat} (Ah3 : MarchAt sh h3 h3e h3p h3t) (n124a : inR x6) (n124b : inR (I h3 0)) (kt : I h3 0 ≤ x6 → K 153 [none, none, none, none, some (vL w4), none, none] [] (sh, I, L) (0, 0)) (kf : ¬ (I h3 0 ≤ x6) → K 127 [some (vR 0), none, none, some (vR h3), some (vL w4), none, some (vI x6)] [] (sh, I, L) (0, 0)) : K 118 [some (vR 0), none, none, some (vR h3), some (vL w4), none, some (vI x6)] [] (sh, I, L) (0, 0) := by
  refine hK.1 118 [some (vR 0), none, none, some (vR h3), some (vL w4), none, some (vI x6)] [] (sh, I, L) (0, 0) ?_
  refine hK.1 120 [some (vR 0), none, none, some (vR h3), some (vL w4), none, some (vI x6)] [vI x6] (sh, I, L) (0, 0) ?_
  refine hK.1 121 [some (vR 0), none, none, some (vR h3), some (vL w4), none, some (vI x6)] [vR h3, vI x6] (sh, I, L) (0, 0) ?_
  refine And.intro (mem1 Ah3.1) ?_
  refine hK.1 124 [some (vR 0), none, none, some (vR h3), some (vL w4), none, some (vI x6)] [vI (I h3 0), vI x6] (sh, I, L) (0, 0) ?_
  exact And.intro (And.intro n124a n124b) (And.intro (fun h => hK.2 [false, false, false, false, true, false, false] _ _ _ _ _ (kt h)) (fun h => hK.2 [true, false, false, true, true, false, true] _ _ _ _ _ (kf h)))
set_option maxRecDepth 4000 in
theorem B_X11_marchInto_127 {Q : oQ} {K : oK} (hK : oCl tb_X11_marchInto Q K) {sh : oS} (hs : Sh sh) {I : Nat → Nat → Int} {L : Nat → Nat → Int64} {h3 : Nat} {w4 : Int64} {x6 : Int} (b142 : 0 ≤ x6 ∧ x6 < 10) (k : K 118 [some (vR 0), none, none, some (vR h3), some (vL (gAdd (gMul 31 w4) ((Int32.ofInt (I 29 (x6.toNat))).toInt64))), none, some (vI (x6 + 1))] [] (sh, I, L) (0, 0)) : K 127 [some (vR 0), none, none, some (vR h3), some (vL w4), none, some (vI x6)] [] (sh, I, L) (0, 0) := by
  refine hK.1 127 [some (vR 0), none, none, some (vR h3), some (vL w4), none, some (vI x6)] [] (sh, I, L) (0, 0) ?_
  refine hK.1 130 [some (vR 0), none, none, some (vR h3), some (vL w4), none, some (vI x6)] [vL 31] (sh, I, L) (0, 0) ?_
  refine hK.1 132 [some (vR 0), none, none, some (vR h3), some (vL w4), none, some (vI x6)] [vL w4, vL 31] (sh, I, L) (0, 0) ?_
  refine hK.1 133 [some (vR 0), none, none, some (vR h3), some (vL w4), none, some (vI x6)] [vL (gMul 31 w4)] (sh, I, L) (0, 0) ?_
  refine hK.1 134 [some (vR 0), none, none, some (vR h3), some (vL w4), none, some (vI x6)] [vR 0, vL (gMul 31 w4)] (sh, I, L) (0, 0) ?_
  refine And.intro (mem1 (sk_0 hs)) (Exists.intro 24 (And.intro (sr_0_14 hs) ?_))
  refine hK.1 137 [some (vR 0), none, none, some (vR h3), some (vL w4), none, some (vI x6)] [vR 24, vL (gMul 31 w4)] (sh, I, L) (0, 0) ?_
  refine And.intro (mem1 (sk_24 hs)) (Exists.intro 29 (And.intro (sr_24_1 hs) ?_))
  refine hK.1 140 [some (vR 0), none, none, some (vR h3), some (vL w4), none, some (vI x6)] [vR 29, vL (gMul 31 w4)] (sh, I, L) (0, 0) ?_
  refine hK.1 142 [some (vR 0), none, none, some (vR h3), some (vL w4), none, some (vI x6)] [vI x6, vR 29, vL (gMul 31 w4)] (sh, I, L) (0, 0) ?_
  refine And.intro (And.intro (sk_29 hs) (ixL (sl_29 hs) b142)) ?_
  refine hK.1 143 [some (vR 0), none, none, some (vR h3), some (vL w4), none, some (vI x6)] [vI (I 29 (x6.toNat)), vL (gMul 31 w4)] (sh, I, L) (0, 0) ?_
  refine hK.1 144 [some (vR 0), none, none, some (vR h3), some (vL w4), none, some (vI x6)] [vL ((Int32.ofInt (I 29 (x6.toNat))).toInt64), vL (gMul 31 w4)] (sh, I, L) (0, 0) ?_
  refine hK.1 145 [some (vR 0), none, none, some (vR h3), some (vL w4), none, some (vI x6)] [vL (gAdd (gMul 31 w4) ((Int32.ofInt (I 29 (x6.toNat))).toInt64))] (sh, I, L) (0, 0) ?_
  refine hK.1 147 [some (vR 0), none, none, some (vR h3), some (vL (gAdd (gMul 31 w4) ((Int32.ofInt (I 29 (x6.toNat))).toInt64))), none, some (vI x6)] [] (sh, I, L) (0, 0) ?_
  refine hK.1 150 [some (vR 0), none, none, some (vR h3), some (vL (gAdd (gMul 31 w4) ((Int32.ofInt (I 29 (x6.toNat))).toInt64))), none, some (vI (x6 + 1))] [] (sh, I, L) (0, 0) ?_
  exact k
set_option maxRecDepth 4000 in
theorem B_X11_marchInto_153 {Q : oQ} {K : oK} (hK : oCl tb_X11_marchInto Q K) {sh : oS} {I : Nat → Nat → Int} {L : Nat → Nat → Int64} {w4 : Int64} (k : Q (some (vL w4)) (sh, I, L)) : K 153 [none, none, none, none, some (vL w4), none, none] [] (sh, I, L) (0, 0) := by
  refine hK.1 153 [none, none, none, none, some (vL w4), none, none] [] (sh, I, L) (0, 0) ?_
  refine hK.1 155 [none, none, none, none, some (vL w4), none, none] [vL w4] (sh, I, L) (0, 0) ?_
  exact And.intro ⟨by decide, by decide⟩ k
set_option maxRecDepth 4000 in
theorem B_X11_planInto_0 {Q : oQ} {K : oK} (hK : oCl tb_X11_planInto Q K) {sh : oS} {I : Nat → Nat → Int} {L : Nat → Nat → Int64} {w0 : Int64} {h2 : Nat} (k0 : sK sh h2 = 0 → T_X0_kind [vR h2] (sh, I, L) (fun r mm => K 9 [none, none, some (vR h2), none, none] (r.toList ++ [vL (gMul 31 w0)]) mm (0, 0))) (k1 : sK sh h2 = 1 → T_X1_kind [vR h2] (sh, I, L) (fun r mm => K 9 [none, none, some (vR h2), none, none] (r.toList ++ [vL (gMul 31 w0)]) mm (0, 0))) (k3 : sK sh h2 = 3 → T_X3_kind [vR h2] (sh, I, L) (fun r mm => K 9 [none, none, some (vR h2), none, none] (r.toList ++ [vL (gMul 31 w0)]) mm (0, 0))) (k5 : sK sh h2 = 5 → T_X5_kind [vR h2] (sh, I, L) (fun r mm => K 9 [none, none, some (vR h2), none, none] (r.toList ++ [vL (gMul 31 w0)]) mm (0, 0))) (k10 : sK sh h2 = 10 → T_X10_kind [vR h2] (sh, I, L) (fun r mm => K 9 [none, none, some (vR h2), none, none] (r.toList ++ [vL (gMul 31 w0)]) mm (0, 0))) (kb : sK sh h2 ∈ [0, 1, 3, 5, 10]) : K 0 [some (vL w0), none, some (vR h2), none, none] [] (sh, I, L) (0, 0) := by
  refine hK.1 0 [some (vL w0), none, some (vR h2), none, none] [] (sh, I, L) (0, 0) ?_
  refine hK.1 3 [some (vL w0), none, some (vR h2), none, none] [vL 31] (sh, I, L) (0, 0) ?_
  refine hK.1 4 [some (vL w0), none, some (vR h2), none, none] [vL w0, vL 31] (sh, I, L) (0, 0) ?_
  refine hK.1 5 [some (vL w0), none, some (vR h2), none, none] [vL (gMul 31 w0)] (sh, I, L) (0, 0) ?_
  refine hK.2 [false, false, true, false, false] _ _ _ _ _ ?_
  refine hK.1 6 [none, none, some (vR h2), none, none] [vR h2, vL (gMul 31 w0)] (sh, I, L) (0, 0) ?_
  refine And.intro ⟨Nat.le_of_ble_eq_true rfl, Nat.le_of_ble_eq_true rfl, Nat.le_of_ble_eq_true rfl, Nat.le_of_ble_eq_true rfl⟩ ?_
  simp only [List.mem_cons, List.not_mem_nil, or_false] at kb
  rcases kb with kb | kb | kb | kb | kb
  · exact ⟨(0, T_X0_kind), List.mem_of_getElem? (i := 0) rfl, kb, k0 kb⟩
  · exact ⟨(1, T_X1_kind), List.mem_of_getElem? (i := 1) rfl, kb, k1 kb⟩
  · exact ⟨(3, T_X3_kind), List.mem_of_getElem? (i := 2) rfl, kb, k3 kb⟩
  · exact ⟨(5, T_X5_kind), List.mem_of_getElem? (i := 3) rfl, kb, k5 kb⟩
  · exact ⟨(10, T_X10_kind), List.mem_of_getElem? (i := 4) rfl, kb, k10 kb⟩
set_option maxRecDepth 4000 in
theorem B_X11_planInto_9 {Q : oQ} {K : oK} (hK : oCl tb_X11_planInto Q K) {sh : oS} {I : Nat → Nat → Int} {L : Nat → Nat → Int64} {h2 : Nat} {s0 : Int64} {s1 : Int} (kh2_0 : sK sh h2 ∈ [0, 1, 3, 5, 10]) (k : Q (some (vL (gAdd (gMul 31 (gAdd (gMul 31 (gAdd s0 ((Int32.ofInt s1).toInt64))) ((Int32.ofInt (I h2 0)).toInt64))) ((Int32.ofInt (I h2 1)).toInt64)))) (sh, I, L)) : K 9 [none, none, some (vR h2), none, none] [vI s1, vL s0] (sh, I, L) (0, 0) := by
  refine hK.1 9 [none, none, some (vR h2), none, none] [vI s1, vL s0] (sh, I, L) (0, 0) ?_
  refine hK.1 10 [none, none, some (vR h2), none, none] [vL ((Int32.ofInt s1).toInt64), vL s0] (sh, I, L) (0, 0) ?_
  refine hK.1 11 [none, none, some (vR h2), none, none] [vL (gAdd s0 ((Int32.ofInt s1).toInt64))] (sh, I, L) (0, 0) ?_
  refine hK.1 12 [none, none, some (vR h2), some (vL (gAdd s0 ((Int32.ofInt s1).toInt64))), none] [] (sh, I, L) (0, 0) ?_
  refine hK.1 15 [none, none, some (vR h2), some (vL (gAdd s0 ((Int32.ofInt s1).toInt64))), none] [vL 31] (sh, I, L) (0, 0) ?_
  refine hK.1 16 [none, none, some (vR h2), some (vL (gAdd s0 ((Int32.ofInt s1).toInt64))), none] [vL (gAdd s0 ((Int32.ofInt s1).toInt64)), vL 31] (sh, I, L) (0, 0) ?_
  refine hK.1 17 [none, none, some (vR h2), some (vL (gAdd s0 ((Int32.ofInt s1).toInt64))), none] [vL (gMul 31 (gAdd s0 ((Int32.ofInt s1).toInt64)))] (sh, I, L) (0, 0) ?_
  refine hK.1 18 [none, none, some (vR h2), some (vL (gAdd s0 ((Int32.ofInt s1).toInt64))), none] [vR h2, vL (gMul 31 (gAdd s0 ((Int32.ofInt s1).toInt64)))] (sh, I, L) (0, 0) ?_
  refine And.intro (kh2_0) ?_
  refine hK.1 21 [none, none, some (vR h2), some (vL (gAdd s0 ((Int32.ofInt s1).toInt64))), none] [vI (I h2 0), vL (gMul 31 (gAdd s0 ((Int32.ofInt s1).toInt64)))] (sh, I, L) (0, 0) ?_
  refine hK.1 22 [none, none, some (vR h2), some (vL (gAdd s0 ((Int32.ofInt s1).toInt64))), none] [vL ((Int32.ofInt (I h2 0)).toInt64), vL (gMul 31 (gAdd s0 ((Int32.ofInt s1).toInt64)))] (sh, I, L) (0, 0) ?_
  refine hK.1 23 [none, none, some (vR h2), some (vL (gAdd s0 ((Int32.ofInt s1).toInt64))), none] [vL (gAdd (gMul 31 (gAdd s0 ((Int32.ofInt s1).toInt64))) ((Int32.ofInt (I h2 0)).toInt64))] (sh, I, L) (0, 0) ?_
  refine hK.1 24 [none, none, some (vR h2), some (vL (gAdd (gMul 31 (gAdd s0 ((Int32.ofInt s1).toInt64))) ((Int32.ofInt (I h2 0)).toInt64))), none] [] (sh, I, L) (0, 0) ?_
  refine hK.1 27 [none, none, some (vR h2), some (vL (gAdd (gMul 31 (gAdd s0 ((Int32.ofInt s1).toInt64))) ((Int32.ofInt (I h2 0)).toInt64))), none] [vL 31] (sh, I, L) (0, 0) ?_
  refine hK.1 28 [none, none, some (vR h2), some (vL (gAdd (gMul 31 (gAdd s0 ((Int32.ofInt s1).toInt64))) ((Int32.ofInt (I h2 0)).toInt64))), none] [vL (gAdd (gMul 31 (gAdd s0 ((Int32.ofInt s1).toInt64))) ((Int32.ofInt (I h2 0)).toInt64)), vL 31] (sh, I, L) (0, 0) ?_
  refine hK.1 29 [none, none, some (vR h2), some (vL (gAdd (gMul 31 (gAdd s0 ((Int32.ofInt s1).toInt64))) ((Int32.ofInt (I h2 0)).toInt64))), none] [vL (gMul 31 (gAdd (gMul 31 (gAdd s0 ((Int32.ofInt s1).toInt64))) ((Int32.ofInt (I h2 0)).toInt64)))] (sh, I, L) (0, 0) ?_
  refine hK.1 30 [none, none, some (vR h2), some (vL (gAdd (gMul 31 (gAdd s0 ((Int32.ofInt s1).toInt64))) ((Int32.ofInt (I h2 0)).toInt64))), none] [vR h2, vL (gMul 31 (gAdd (gMul 31 (gAdd s0 ((Int32.ofInt s1).toInt64))) ((Int32.ofInt (I h2 0)).toInt64)))] (sh, I, L) (0, 0) ?_
  refine And.intro (kh2_0) ?_
  refine hK.1 33 [none, none, some (vR h2), some (vL (gAdd (gMul 31 (gAdd s0 ((Int32.ofInt s1).toInt64))) ((Int32.ofInt (I h2 0)).toInt64))), none] [vI (I h2 1), vL (gMul 31 (gAdd (gMul 31 (gAdd s0 ((Int32.ofInt s1).toInt64))) ((Int32.ofInt (I h2 0)).toInt64)))] (sh, I, L) (0, 0) ?_
  refine hK.1 34 [none, none, some (vR h2), some (vL (gAdd (gMul 31 (gAdd s0 ((Int32.ofInt s1).toInt64))) ((Int32.ofInt (I h2 0)).toInt64))), none] [vL ((Int32.ofInt (I h2 1)).toInt64), vL (gMul 31 (gAdd (gMul 31 (gAdd s0 ((Int32.ofInt s1).toInt64))) ((Int32.ofInt (I h2 0)).toInt64)))] (sh, I, L) (0, 0) ?_
  refine hK.1 35 [none, none, some (vR h2), some (vL (gAdd (gMul 31 (gAdd s0 ((Int32.ofInt s1).toInt64))) ((Int32.ofInt (I h2 0)).toInt64))), none] [vL (gAdd (gMul 31 (gAdd (gMul 31 (gAdd s0 ((Int32.ofInt s1).toInt64))) ((Int32.ofInt (I h2 0)).toInt64))) ((Int32.ofInt (I h2 1)).toInt64))] (sh, I, L) (0, 0) ?_
  exact And.intro ⟨by decide, by decide⟩ k
set_option maxRecDepth 4000 in
theorem B_X11_digest_0 {Q : oQ} {K : oK} (hK : oCl tb_X11_digest Q K) {sh : oS} (hs : Sh sh) {I : Nat → Nat → Int} {L : Nat → Nat → Int64}  (k : T_X11_landInto [vR 0, vL 397] (sh, I, L) (fun r mm => K 7 [some (vR 0), none, none, none] (r.toList ++ []) mm (0, 0))) : K 0 [some (vR 0), none, none, none] [] (sh, I, L) (0, 0) := by
  refine hK.1 0 [some (vR 0), none, none, none] [] (sh, I, L) (0, 0) ?_
  refine hK.1 1 [some (vR 0), none, none, none] [vR 0] (sh, I, L) (0, 0) ?_
  refine hK.1 4 [some (vR 0), none, none, none] [vL 397, vR 0] (sh, I, L) (0, 0) ?_
  exact And.intro ⟨(sk_0 hs), Nat.le_of_ble_eq_true rfl, Nat.le_of_ble_eq_true rfl, Nat.le_of_ble_eq_true rfl, Nat.le_of_ble_eq_true rfl⟩ k
set_option maxRecDepth 4000 in
theorem B_X11_digest_7 {Q : oQ} {K : oK} (hK : oCl tb_X11_digest Q K) {sh : oS} {I : Nat → Nat → Int} {L : Nat → Nat → Int64} {s0 : Int64} (k : K 10 [some (vR 0), some (vL s0), none, some (vI 0)] [] (sh, I, L) (0, 0)) : K 7 [some (vR 0), none, none, none] [vL s0] (sh, I, L) (0, 0) := by
  refine hK.1 7 [some (vR 0), none, none, none] [vL s0] (sh, I, L) (0, 0) ?_
  refine hK.1 8 [some (vR 0), some (vL s0), none, none] [] (sh, I, L) (0, 0) ?_
  refine hK.1 9 [some (vR 0), some (vL s0), none, none] [vI 0] (sh, I, L) (0, 0) ?_
  exact k
set_option maxRecDepth 4000 in
theorem B_X11_digest_10 {Q : oQ} {K : oK} (hK : oCl tb_X11_digest Q K) {sh : oS} (hs : Sh sh) {I : Nat → Nat → Int} {L : Nat → Nat → Int64} {w1 : Int64} {x3 : Int} (n15a : inR x3) (n15b : inR (I 0 8)) (kt : I 0 8 ≤ x3 → K 36 [some (vR 0), some (vL w1), none, none] [] (sh, I, L) (0, 0)) (kf : ¬ (I 0 8 ≤ x3) → K 18 [some (vR 0), some (vL w1), none, some (vI x3)] [] (sh, I, L) (0, 0)) : K 10 [some (vR 0), some (vL w1), none, some (vI x3)] [] (sh, I, L) (0, 0) := by
  refine hK.1 10 [some (vR 0), some (vL w1), none, some (vI x3)] [] (sh, I, L) (0, 0) ?_
  refine hK.1 11 [some (vR 0), some (vL w1), none, some (vI x3)] [vI x3] (sh, I, L) (0, 0) ?_
  refine hK.1 12 [some (vR 0), some (vL w1), none, some (vI x3)] [vR 0, vI x3] (sh, I, L) (0, 0) ?_
  refine And.intro (mem1 (sk_0 hs)) ?_
  refine hK.1 15 [some (vR 0), some (vL w1), none, some (vI x3)] [vI (I 0 8), vI x3] (sh, I, L) (0, 0) ?_
  exact And.intro (And.intro n15a n15b) (And.intro (fun h => hK.2 [true, true, false, false] _ _ _ _ _ (kt h)) (fun h => hK.2 [true, true, false, true] _ _ _ _ _ (kf h)))
set_option maxRecDepth 4000 in
theorem B_X11_digest_18 {Q : oQ} {K : oK} (hK : oCl tb_X11_digest Q K) {sh : oS} (hs : Sh sh) {I : Nat → Nat → Int} {L : Nat → Nat → Int64} {w1 : Int64} {x3 : Int} {q25 : Nat} (b25 : 0 ≤ x3 ∧ x3 < 4) (r25 : sR sh 9 (x3.toNat) = some q25) (k : T_X11_marchInto [vR 0, vL w1, vR q25] (sh, I, L) (fun r mm => K 29 [some (vR 0), none, none, some (vI x3)] (r.toList ++ []) mm (0, 0))) : K 18 [some (vR 0), some (vL w1), none, some (vI x3)] [] (sh, I, L) (0, 0) := by
  refine hK.1 18 [some (vR 0), some (vL w1), none, some (vI x3)] [] (sh, I, L) (0, 0) ?_
  refine hK.1 19 [some (vR 0), some (vL w1), none, some (vI x3)] [vR 0] (sh, I, L) (0, 0) ?_
  refine hK.1 20 [some (vR 0), some (vL w1), none, some (vI x3)] [vL w1, vR 0] (sh, I, L) (0, 0) ?_
  refine hK.1 21 [some (vR 0), some (vL w1), none, some (vI x3)] [vR 0, vL w1, vR 0] (sh, I, L) (0, 0) ?_
  refine And.intro (mem1 (sk_0 hs)) (Exists.intro 9 (And.intro (sr_0_3 hs) ?_))
  refine hK.1 24 [some (vR 0), some (vL w1), none, some (vI x3)] [vR 9, vL w1, vR 0] (sh, I, L) (0, 0) ?_
  refine hK.1 25 [some (vR 0), some (vL w1), none, some (vI x3)] [vI x3, vR 9, vL w1, vR 0] (sh, I, L) (0, 0) ?_
  refine And.intro (And.intro (sk_9 hs) (ixL (sl_9 hs) b25)) (Exists.intro q25 (And.intro r25 ?_))
  refine hK.2 [true, false, false, true] _ _ _ _ _ ?_
  refine hK.1 26 [some (vR 0), none, none, some (vI x3)] [vR q25, vL w1, vR 0] (sh, I, L) (0, 0) ?_
  exact And.intro ⟨(sk_0 hs), Nat.le_of_ble_eq_true rfl, Nat.le_of_ble_eq_true rfl, Nat.le_of_ble_eq_true rfl, Nat.le_of_ble_eq_true rfl⟩ k
set_option maxRecDepth 4000 in
theorem B_X11_digest_29 {Q : oQ} {K : oK} (hK : oCl tb_X11_digest Q K) {sh : oS} {I : Nat → Nat → Int} {L : Nat → Nat → Int64} {x3 : Int} {s0 : Int64} (k : K 10 [some (vR 0), some (vL s0), none, some (vI (x3 + 1))] [] (sh, I, L) (0, 0)) : K 29 [some (vR 0), none, none, some (vI x3)] [vL s0] (sh, I, L) (0, 0) := by
  refine hK.1 29 [some (vR 0), none, none, some (vI x3)] [vL s0] (sh, I, L) (0, 0) ?_
  refine hK.1 30 [some (vR 0), some (vL s0), none, some (vI x3)] [] (sh, I, L) (0, 0) ?_
  refine hK.1 33 [some (vR 0), some (vL s0), none, some (vI (x3 + 1))] [] (sh, I, L) (0, 0) ?_
  exact k
set_option maxRecDepth 4000 in
theorem B_X11_digest_36 {Q : oQ} {K : oK} (hK : oCl tb_X11_digest Q K) {sh : oS} {I : Nat → Nat → Int} {L : Nat → Nat → Int64} {w1 : Int64} (k : K 38 [some (vR 0), some (vL w1), none, some (vI 0)] [] (sh, I, L) (0, 0)) : K 36 [some (vR 0), some (vL w1), none, none] [] (sh, I, L) (0, 0) := by
  refine hK.1 36 [some (vR 0), some (vL w1), none, none] [] (sh, I, L) (0, 0) ?_
  refine hK.1 37 [some (vR 0), some (vL w1), none, none] [vI 0] (sh, I, L) (0, 0) ?_
  exact k
set_option maxRecDepth 4000 in
theorem B_X11_digest_38 {Q : oQ} {K : oK} (hK : oCl tb_X11_digest Q K) {sh : oS} (hs : Sh sh) {I : Nat → Nat → Int} {L : Nat → Nat → Int64} {w1 : Int64} {x3 : Int} (n43a : inR x3) (n43b : inR (I 0 9)) (kt : I 0 9 ≤ x3 → K 144 [some (vR 0), some (vL w1), none, none] [] (sh, I, L) (0, 0)) (kf : ¬ (I 0 9 ≤ x3) → K 46 [some (vR 0), some (vL w1), none, some (vI x3)] [] (sh, I, L) (0, 0)) : K 38 [some (vR 0), some (vL w1), none, some (vI x3)] [] (sh, I, L) (0, 0) := by
  refine hK.1 38 [some (vR 0), some (vL w1), none, some (vI x3)] [] (sh, I, L) (0, 0) ?_
  refine hK.1 39 [some (vR 0), some (vL w1), none, some (vI x3)] [vI x3] (sh, I, L) (0, 0) ?_
  refine hK.1 40 [some (vR 0), some (vL w1), none, some (vI x3)] [vR 0, vI x3] (sh, I, L) (0, 0) ?_
  refine And.intro (mem1 (sk_0 hs)) ?_
  refine hK.1 43 [some (vR 0), some (vL w1), none, some (vI x3)] [vI (I 0 9), vI x3] (sh, I, L) (0, 0) ?_
  exact And.intro (And.intro n43a n43b) (And.intro (fun h => hK.2 [true, true, false, false] _ _ _ _ _ (kt h)) (fun h => hK.2 [true, true, false, true] _ _ _ _ _ (kf h)))
set_option maxRecDepth 4000 in
theorem B_X11_digest_46 {Q : oQ} {K : oK} (hK : oCl tb_X11_digest Q K) {sh : oS} (hs : Sh sh) {I : Nat → Nat → Int} {L : Nat → Nat → Int64} {w1 : Int64} {x3 : Int} {q52 : Nat} (b52 : 0 ≤ x3 ∧ x3 < 8) (r52 : sR sh 10 (x3.toNat) = some q52) (k : T_X11_planInto [vL w1, vR q52] (sh, I, L) (fun r mm => K 56 [some (vR 0), none, none, some (vI x3)] (r.toList ++ []) mm (0, 0))) : K 46 [some (vR 0), some (vL w1), none, some (vI x3)] [] (sh, I, L) (0, 0) := by
  refine hK.1 46 [some (vR 0), some (vL w1), none, some (vI x3)] [] (sh, I, L) (0, 0) ?_
  refine hK.1 47 [some (vR 0), some (vL w1), none, some (vI x3)] [vL w1] (sh, I, L) (0, 0) ?_
  refine hK.1 48 [some (vR 0), some (vL w1), none, some (vI x3)] [vR 0, vL w1] (sh, I, L) (0, 0) ?_
  refine And.intro (mem1 (sk_0 hs)) (Exists.intro 10 (And.intro (sr_0_4 hs) ?_))
  refine hK.1 51 [some (vR 0), some (vL w1), none, some (vI x3)] [vR 10, vL w1] (sh, I, L) (0, 0) ?_
  refine hK.1 52 [some (vR 0), some (vL w1), none, some (vI x3)] [vI x3, vR 10, vL w1] (sh, I, L) (0, 0) ?_
  refine And.intro (And.intro (sk_10 hs) (ixL (sl_10 hs) b52)) (Exists.intro q52 (And.intro r52 ?_))
  refine hK.2 [true, false, false, true] _ _ _ _ _ ?_
  refine hK.1 53 [some (vR 0), none, none, some (vI x3)] [vR q52, vL w1] (sh, I, L) (0, 0) ?_
  exact And.intro ⟨Nat.le_of_ble_eq_true rfl, Nat.le_of_ble_eq_true rfl, Nat.le_of_ble_eq_true rfl, Nat.le_of_ble_eq_true rfl⟩ k
set_option maxRecDepth 4000 in
theorem B_X11_digest_56 {Q : oQ} {K : oK} (hK : oCl tb_X11_digest Q K) {sh : oS} (hs : Sh sh) {I : Nat → Nat → Int} {L : Nat → Nat → Int64} {x3 : Int} {s0 : Int64} (n64 : inR (I 3 0)) (kt : I 3 0 ≤ 0 → K 138 [some (vR 0), some (vL s0), none, some (vI x3)] [] (sh, I, L) (0, 0)) (kf : ¬ (I 3 0 ≤ 0) → K 67 [some (vR 0), some (vL s0), none, some (vI x3)] [] (sh, I, L) (0, 0)) : K 56 [some (vR 0), none, none, some (vI x3)] [vL s0] (sh, I, L) (0, 0) := by
  refine hK.1 56 [some (vR 0), none, none, some (vI x3)] [vL s0] (sh, I, L) (0, 0) ?_
  refine hK.1 57 [some (vR 0), some (vL s0), none, some (vI x3)] [] (sh, I, L) (0, 0) ?_
  refine hK.1 58 [some (vR 0), some (vL s0), none, some (vI x3)] [vR 0] (sh, I, L) (0, 0) ?_
  refine And.intro (mem1 (sk_0 hs)) (Exists.intro 3 (And.intro (sr_0_1 hs) ?_))
  refine hK.1 61 [some (vR 0), some (vL s0), none, some (vI x3)] [vR 3] (sh, I, L) (0, 0) ?_
  refine And.intro (mem1 (sk_3 hs)) ?_
  refine hK.1 64 [some (vR 0), some (vL s0), none, some (vI x3)] [vI (I 3 0)] (sh, I, L) (0, 0) ?_
  exact And.intro (n64) (And.intro (fun h => hK.2 [true, true, false, true] _ _ _ _ _ (kt h)) (fun h => hK.2 [true, true, false, true] _ _ _ _ _ (kf h)))
set_option maxRecDepth 4000 in
theorem B_X11_digest_67 {Q : oQ} {K : oK} (hK : oCl tb_X11_digest Q K) {sh : oS} (hs : Sh sh) {I : Nat → Nat → Int} {L : Nat → Nat → Int64} {w1 : Int64} {x3 : Int} (n71 : inR (I 0 8)) (kt : I 0 8 ≤ 0 → K 138 [some (vR 0), some (vL w1), none, some (vI x3)] [] (sh, I, L) (0, 0)) (kf : ¬ (I 0 8 ≤ 0) → K 74 [some (vR 0), some (vL w1), none, some (vI x3)] [] (sh, I, L) (0, 0)) : K 67 [some (vR 0), some (vL w1), none, some (vI x3)] [] (sh, I, L) (0, 0) := by
  refine hK.1 67 [some (vR 0), some (vL w1), none, some (vI x3)] [] (sh, I, L) (0, 0) ?_
  refine hK.1 68 [some (vR 0), some (vL w1), none, some (vI x3)] [vR 0] (sh, I, L) (0, 0) ?_
  refine And.intro (mem1 (sk_0 hs)) ?_
  refine hK.1 71 [some (vR 0), some (vL w1), none, some (vI x3)] [vI (I 0 8)] (sh, I, L) (0, 0) ?_
  exact And.intro (n71) (And.intro (fun h => hK.2 [true, true, false, true] _ _ _ _ _ (kt h)) (fun h => hK.2 [true, true, false, true] _ _ _ _ _ (kf h)))
set_option maxRecDepth 4000 in
theorem B_X11_digest_74 {Q : oQ} {K : oK} (hK : oCl tb_X11_digest Q K) {sh : oS} (hs : Sh sh) {I : Nat → Nat → Int} {L : Nat → Nat → Int64} {w1 : Int64} {x3 : Int} {q79 : Nat} (b79 : 0 ≤ x3 ∧ x3 < 8) (r79 : sR sh 10 (x3.toNat) = some q79) (ky : sK sh q79 ∈ [1] → K 83 [some (vR 0), some (vL w1), none, some (vI x3)] [vI 1] (sh, I, L) (0, 0)) (kn : sK sh q79 ∈ [0, 3, 5, 10] → K 83 [some (vR 0), some (vL w1), none, some (vI x3)] [vI 0] (sh, I, L) (0, 0)) (kb : sK sh q79 ∈ [0, 1, 3, 5, 10]) : K 74 [some (vR 0), some (vL w1), none, some (vI x3)] [] (sh, I, L) (0, 0) := by
  refine hK.1 74 [some (vR 0), some (vL w1), none, some (vI x3)] [] (sh, I, L) (0, 0) ?_
  refine hK.1 75 [some (vR 0), some (vL w1), none, some (vI x3)] [vR 0] (sh, I, L) (0, 0) ?_
  refine And.intro (mem1 (sk_0 hs)) (Exists.intro 10 (And.intro (sr_0_4 hs) ?_))
  refine hK.1 78 [some (vR 0), some (vL w1), none, some (vI x3)] [vR 10] (sh, I, L) (0, 0) ?_
  refine hK.1 79 [some (vR 0), some (vL w1), none, some (vI x3)] [vI x3, vR 10] (sh, I, L) (0, 0) ?_
  refine And.intro (And.intro (sk_10 hs) (ixL (sl_10 hs) b79)) (Exists.intro q79 (And.intro r79 ?_))
  refine hK.1 80 [some (vR 0), some (vL w1), none, some (vI x3)] [vR q79] (sh, I, L) (0, 0) ?_
  exact instC kb (fun h => ky h) (fun h => kn h)
set_option maxRecDepth 4000 in
theorem B_X11_digest_86 {Q : oQ} {K : oK} (hK : oCl tb_X11_digest Q K) {sh : oS} (hs : Sh sh) {I : Nat → Nat → Int} {L : Nat → Nat → Int64} {w1 : Int64} {x3 : Int} (k : T_X11_pitch [vR 0, vI x3, vI 0] (sh, I, L) (fun r mm => K 92 [some (vR 0), some (vL w1), none, some (vI x3)] (r.toList ++ []) mm (0, 0))) : K 86 [some (vR 0), some (vL w1), none, some (vI x3)] [] (sh, I, L) (0, 0) := by
  refine hK.1 86 [some (vR 0), some (vL w1), none, some (vI x3)] [] (sh, I, L) (0, 0) ?_
  refine hK.1 87 [some (vR 0), some (vL w1), none, some (vI x3)] [vR 0] (sh, I, L) (0, 0) ?_
  refine hK.1 88 [some (vR 0), some (vL w1), none, some (vI x3)] [vI x3, vR 0] (sh, I, L) (0, 0) ?_
  refine hK.1 89 [some (vR 0), some (vL w1), none, some (vI x3)] [vI 0, vI x3, vR 0] (sh, I, L) (0, 0) ?_
  exact And.intro ⟨(sk_0 hs), Nat.le_of_ble_eq_true rfl, Nat.le_of_ble_eq_true rfl, Nat.le_of_ble_eq_true rfl, Nat.le_of_ble_eq_true rfl⟩ k
set_option maxRecDepth 4000 in
theorem B_X11_digest_92 {Q : oQ} {K : oK} (hK : oCl tb_X11_digest Q K) {sh : oS} (hs : Sh sh) {I : Nat → Nat → Int} {L : Nat → Nat → Int64} {w1 : Int64} {x3 : Int} {q127 : Nat} {q127e q127p q127t : Nat} (r127 : sR sh 9 0 = some q127) (k : T_X6_wayOn [vR q127] (sh, I, L) (fun r mm => K 131 [some (vR 0), none, none, some (vI x3)] (r.toList ++ [vI 0, vI x3, vR 0, vR 41, vL (gMul 31 (gAdd (gMul 31 w1) ((Int32.ofInt (I 25 3)).toInt64)))]) mm (0, 0))) (Aq127 : MarchAt sh q127 q127e q127p q127t) : K 92 [some (vR 0), some (vL w1), none, some (vI x3)] [] (sh, I, L) (0, 0) := by
  refine hK.1 92 [some (vR 0), some (vL w1), none, some (vI x3)] [] (sh, I, L) (0, 0) ?_
  refine hK.1 95 [some (vR 0), some (vL w1), none, some (vI x3)] [vL 31] (sh, I, L) (0, 0) ?_
  refine hK.1 96 [some (vR 0), some (vL w1), none, some (vI x3)] [vL w1, vL 31] (sh, I, L) (0, 0) ?_
  refine hK.1 97 [some (vR 0), some (vL w1), none, some (vI x3)] [vL (gMul 31 w1)] (sh, I, L) (0, 0) ?_
  refine hK.1 98 [some (vR 0), some (vL w1), none, some (vI x3)] [vR 0, vL (gMul 31 w1)] (sh, I, L) (0, 0) ?_
  refine And.intro (mem1 (sk_0 hs)) (Exists.intro 24 (And.intro (sr_0_14 hs) ?_))
  refine hK.1 101 [some (vR 0), some (vL w1), none, some (vI x3)] [vR 24, vL (gMul 31 w1)] (sh, I, L) (0, 0) ?_
  refine And.intro (mem1 (sk_24 hs)) (Exists.intro 25 (And.intro (sr_24_0 hs) ?_))
  refine hK.1 104 [some (vR 0), some (vL w1), none, some (vI x3)] [vR 25, vL (gMul 31 w1)] (sh, I, L) (0, 0) ?_
  refine And.intro (mem1 (sk_25 hs)) ?_
  refine hK.1 107 [some (vR 0), some (vL w1), none, some (vI x3)] [vI (I 25 3), vL (gMul 31 w1)] (sh, I, L) (0, 0) ?_
  refine hK.1 108 [some (vR 0), some (vL w1), none, some (vI x3)] [vL ((Int32.ofInt (I 25 3)).toInt64), vL (gMul 31 w1)] (sh, I, L) (0, 0) ?_
  refine hK.1 109 [some (vR 0), some (vL w1), none, some (vI x3)] [vL (gAdd (gMul 31 w1) ((Int32.ofInt (I 25 3)).toInt64))] (sh, I, L) (0, 0) ?_
  refine hK.1 110 [some (vR 0), some (vL (gAdd (gMul 31 w1) ((Int32.ofInt (I 25 3)).toInt64))), none, some (vI x3)] [] (sh, I, L) (0, 0) ?_
  refine hK.1 113 [some (vR 0), some (vL (gAdd (gMul 31 w1) ((Int32.ofInt (I 25 3)).toInt64))), none, some (vI x3)] [vL 31] (sh, I, L) (0, 0) ?_
  refine hK.1 114 [some (vR 0), some (vL (gAdd (gMul 31 w1) ((Int32.ofInt (I 25 3)).toInt64))), none, some (vI x3)] [vL (gAdd (gMul 31 w1) ((Int32.ofInt (I 25 3)).toInt64)), vL 31] (sh, I, L) (0, 0) ?_
  refine hK.1 115 [some (vR 0), some (vL (gAdd (gMul 31 w1) ((Int32.ofInt (I 25 3)).toInt64))), none, some (vI x3)] [vL (gMul 31 (gAdd (gMul 31 w1) ((Int32.ofInt (I 25 3)).toInt64)))] (sh, I, L) (0, 0) ?_
  refine hK.1 116 [some (vR 0), some (vL (gAdd (gMul 31 w1) ((Int32.ofInt (I 25 3)).toInt64))), none, some (vI x3)] [vR 0, vL (gMul 31 (gAdd (gMul 31 w1) ((Int32.ofInt (I 25 3)).toInt64)))] (sh, I, L) (0, 0) ?_
  refine And.intro (mem1 (sk_0 hs)) (Exists.intro 41 (And.intro (sr_0_15 hs) ?_))
  refine hK.1 119 [some (vR 0), some (vL (gAdd (gMul 31 w1) ((Int32.ofInt (I 25 3)).toInt64))), none, some (vI x3)] [vR 41, vL (gMul 31 (gAdd (gMul 31 w1) ((Int32.ofInt (I 25 3)).toInt64)))] (sh, I, L) (0, 0) ?_
  refine hK.1 120 [some (vR 0), some (vL (gAdd (gMul 31 w1) ((Int32.ofInt (I 25 3)).toInt64))), none, some (vI x3)] [vR 0, vR 41, vL (gMul 31 (gAdd (gMul 31 w1) ((Int32.ofInt (I 25 3)).toInt64)))] (sh, I, L) (0, 0) ?_
  refine hK.1 121 [some (vR 0), some (vL (gAdd (gMul 31 w1) ((Int32.ofInt (I 25 3)).toInt64))), none, some (vI x3)] [vI x3, vR 0, vR 41, vL (gMul 31 (gAdd (gMul 31 w1) ((Int32.ofInt (I 25 3)).toInt64)))] (sh, I, L) (0, 0) ?_
  refine hK.1 122 [some (vR 0), some (vL (gAdd (gMul 31 w1) ((Int32.ofInt (I 25 3)).toInt64))), none, some (vI x3)] [vI 0, vI x3, vR 0, vR 41, vL (gMul 31 (gAdd (gMul 31 w1) ((Int32.ofInt (I 25 3)).toInt64)))] (sh, I, L) (0, 0) ?_
  refine hK.1 123 [some (vR 0), some (vL (gAdd (gMul 31 w1) ((Int32.ofInt (I 25 3)).toInt64))), none, some (vI x3)] [vR 0, vI 0, vI x3, vR 0, vR 41, vL (gMul 31 (gAdd (gMul 31 w1) ((Int32.ofInt (I 25 3)).toInt64)))] (sh, I, L) (0, 0) ?_
  refine And.intro (mem1 (sk_0 hs)) (Exists.intro 9 (And.intro (sr_0_3 hs) ?_))
  refine hK.1 126 [some (vR 0), some (vL (gAdd (gMul 31 w1) ((Int32.ofInt (I 25 3)).toInt64))), none, some (vI x3)] [vR 9, vI 0, vI x3, vR 0, vR 41, vL (gMul 31 (gAdd (gMul 31 w1) ((Int32.ofInt (I 25 3)).toInt64)))] (sh, I, L) (0, 0) ?_
  refine hK.1 127 [some (vR 0), some (vL (gAdd (gMul 31 w1) ((Int32.ofInt (I 25 3)).toInt64))), none, some (vI x3)] [vI 0, vR 9, vI 0, vI x3, vR 0, vR 41, vL (gMul 31 (gAdd (gMul 31 w1) ((Int32.ofInt (I 25 3)).toInt64)))] (sh, I, L) (0, 0) ?_
  refine And.intro (And.intro (sk_9 hs) (ixL (sl_9 hs) ⟨by decide, by decide⟩)) (Exists.intro q127 (And.intro r127 ?_))
  refine hK.2 [true, false, false, true] _ _ _ _ _ ?_
  refine hK.1 128 [some (vR 0), none, none, some (vI x3)] [vR q127, vI 0, vI x3, vR 0, vR 41, vL (gMul 31 (gAdd (gMul 31 w1) ((Int32.ofInt (I 25 3)).toInt64)))] (sh, I, L) (0, 0) ?_
  exact And.intro ⟨Aq127.1, Nat.le_of_ble_eq_true rfl, Nat.le_of_ble_eq_true rfl, Nat.le_of_ble_eq_true rfl, Nat.le_of_ble_eq_true rfl⟩ k
set_option maxRecDepth 4000 in
theorem B_X11_digest_131 {Q : oQ} {K : oK} (hK : oCl tb_X11_digest Q K) {sh : oS} (hs : Sh sh) {I : Nat → Nat → Int} {L : Nat → Nat → Int64} {x3 : Int} {s0 : Int64} {s3 : Int} {s4 : Int} {s5 : Int} (k : T_X11_solved [vR 0, vI s3, vI s4, vI s5] (sh, I, L) (fun r mm => K 134 [some (vR 0), none, none, some (vI x3)] (r.toList ++ [vR 41, vL s0]) mm (0, 0))) : K 131 [some (vR 0), none, none, some (vI x3)] [vI s5, vI s4, vI s3, vR 0, vR 41, vL s0] (sh, I, L) (0, 0) := by
  refine hK.1 131 [some (vR 0), none, none, some (vI x3)] [vI s5, vI s4, vI s3, vR 0, vR 41, vL s0] (sh, I, L) (0, 0) ?_
  exact And.intro ⟨(sk_0 hs), Nat.le_of_ble_eq_true rfl, Nat.le_of_ble_eq_true rfl, Nat.le_of_ble_eq_true rfl, Nat.le_of_ble_eq_true rfl⟩ k
set_option maxRecDepth 4000 in
theorem B_X11_digest_134 {Q : oQ} {K : oK} (hK : oCl tb_X11_digest Q K) {sh : oS} (hs : Sh sh) {I : Nat → Nat → Int} {L : Nat → Nat → Int64} {x3 : Int} {s0 : Int64} {s2 : Int} (b134 : 0 ≤ s2 ∧ s2 < 128) (k : K 138 [some (vR 0), some (vL (gAdd s0 ((Int32.ofInt (I 41 (s2.toNat))).toInt64))), none, some (vI x3)] [] (sh, I, L) (0, 0)) : K 134 [some (vR 0), none, none, some (vI x3)] [vI s2, vR 41, vL s0] (sh, I, L) (0, 0) := by
  refine hK.1 134 [some (vR 0), none, none, some (vI x3)] [vI s2, vR 41, vL s0] (sh, I, L) (0, 0) ?_
  refine And.intro (And.intro (sk_41 hs) (ixL (sl_41 hs) b134)) ?_
  refine hK.1 135 [some (vR 0), none, none, some (vI x3)] [vI (I 41 (s2.toNat)), vL s0] (sh, I, L) (0, 0) ?_
  refine hK.1 136 [some (vR 0), none, none, some (vI x3)] [vL ((Int32.ofInt (I 41 (s2.toNat))).toInt64), vL s0] (sh, I, L) (0, 0) ?_
  refine hK.1 137 [some (vR 0), none, none, some (vI x3)] [vL (gAdd s0 ((Int32.ofInt (I 41 (s2.toNat))).toInt64))] (sh, I, L) (0, 0) ?_
  exact k
set_option maxRecDepth 4000 in
theorem B_X11_digest_138 {Q : oQ} {K : oK} (hK : oCl tb_X11_digest Q K) {sh : oS} {I : Nat → Nat → Int} {L : Nat → Nat → Int64} {w1 : Int64} {x3 : Int} (k : K 38 [some (vR 0), some (vL w1), none, some (vI (x3 + 1))] [] (sh, I, L) (0, 0)) : K 138 [some (vR 0), some (vL w1), none, some (vI x3)] [] (sh, I, L) (0, 0) := by
  refine hK.1 138 [some (vR 0), some (vL w1), none, some (vI x3)] [] (sh, I, L) (0, 0) ?_
  refine hK.1 141 [some (vR 0), some (vL w1), none, some (vI (x3 + 1))] [] (sh, I, L) (0, 0) ?_
  exact k
set_option maxRecDepth 4000 in
theorem B_X11_digest_144 {Q : oQ} {K : oK} (hK : oCl tb_X11_digest Q K) {sh : oS} {I : Nat → Nat → Int} {L : Nat → Nat → Int64} {w1 : Int64} (k : K 146 [some (vR 0), some (vL w1), none, some (vI 0)] [] (sh, I, L) (0, 0)) : K 144 [some (vR 0), some (vL w1), none, none] [] (sh, I, L) (0, 0) := by
  refine hK.1 144 [some (vR 0), some (vL w1), none, none] [] (sh, I, L) (0, 0) ?_
  refine hK.1 145 [some (vR 0), some (vL w1), none, none] [vI 0] (sh, I, L) (0, 0) ?_
  exact k
set_option maxRecDepth 4000 in
theorem B_X11_digest_146 {Q : oQ} {K : oK} (hK : oCl tb_X11_digest Q K) {sh : oS} (hs : Sh sh) {I : Nat → Nat → Int} {L : Nat → Nat → Int64} {w1 : Int64} {x3 : Int} (n154a : inR x3) (n154b : inR (I 1 1)) (kt : I 1 1 ≤ x3 → K 180 [some (vR 0), some (vL w1), none, none] [] (sh, I, L) (0, 0)) (kf : ¬ (I 1 1 ≤ x3) → K 157 [some (vR 0), some (vL w1), none, some (vI x3)] [] (sh, I, L) (0, 0)) : K 146 [some (vR 0), some (vL w1), none, some (vI x3)] [] (sh, I, L) (0, 0) := by
  refine hK.1 146 [some (vR 0), some (vL w1), none, some (vI x3)] [] (sh, I, L) (0, 0) ?_
  refine hK.1 147 [some (vR 0), some (vL w1), none, some (vI x3)] [vI x3] (sh, I, L) (0, 0) ?_
  refine hK.1 148 [some (vR 0), some (vL w1), none, some (vI x3)] [vR 0, vI x3] (sh, I, L) (0, 0) ?_
  refine And.intro (mem1 (sk_0 hs)) (Exists.intro 1 (And.intro (sr_0_0 hs) ?_))
  refine hK.1 151 [some (vR 0), some (vL w1), none, some (vI x3)] [vR 1, vI x3] (sh, I, L) (0, 0) ?_
  refine And.intro (mem1 (sk_1 hs)) ?_
  refine hK.1 154 [some (vR 0), some (vL w1), none, some (vI x3)] [vI (I 1 1), vI x3] (sh, I, L) (0, 0) ?_
  exact And.intro (And.intro n154a n154b) (And.intro (fun h => hK.2 [true, true, false, false] _ _ _ _ _ (kt h)) (fun h => hK.2 [true, true, false, true] _ _ _ _ _ (kf h)))
set_option maxRecDepth 4000 in
theorem B_X11_digest_157 {Q : oQ} {K : oK} (hK : oCl tb_X11_digest Q K) {sh : oS} (hs : Sh sh) {I : Nat → Nat → Int} {L : Nat → Nat → Int64} {w1 : Int64} {x3 : Int} (b170 : 0 ≤ x3 ∧ x3 < 60) (k : K 146 [some (vR 0), some (vL (gAdd (gMul 31 w1) ((Int32.ofInt (I 2 (x3.toNat))).toInt64))), none, some (vI (x3 + 1))] [] (sh, I, L) (0, 0)) : K 157 [some (vR 0), some (vL w1), none, some (vI x3)] [] (sh, I, L) (0, 0) := by
  refine hK.1 157 [some (vR 0), some (vL w1), none, some (vI x3)] [] (sh, I, L) (0, 0) ?_
  refine hK.1 160 [some (vR 0), some (vL w1), none, some (vI x3)] [vL 31] (sh, I, L) (0, 0) ?_
  refine hK.1 161 [some (vR 0), some (vL w1), none, some (vI x3)] [vL w1, vL 31] (sh, I, L) (0, 0) ?_
  refine hK.1 162 [some (vR 0), some (vL w1), none, some (vI x3)] [vL (gMul 31 w1)] (sh, I, L) (0, 0) ?_
  refine hK.1 163 [some (vR 0), some (vL w1), none, some (vI x3)] [vR 0, vL (gMul 31 w1)] (sh, I, L) (0, 0) ?_
  refine And.intro (mem1 (sk_0 hs)) (Exists.intro 1 (And.intro (sr_0_0 hs) ?_))
  refine hK.1 166 [some (vR 0), some (vL w1), none, some (vI x3)] [vR 1, vL (gMul 31 w1)] (sh, I, L) (0, 0) ?_
  refine And.intro (mem1 (sk_1 hs)) (Exists.intro 2 (And.intro (sr_1_0 hs) ?_))
  refine hK.1 169 [some (vR 0), some (vL w1), none, some (vI x3)] [vR 2, vL (gMul 31 w1)] (sh, I, L) (0, 0) ?_
  refine hK.1 170 [some (vR 0), some (vL w1), none, some (vI x3)] [vI x3, vR 2, vL (gMul 31 w1)] (sh, I, L) (0, 0) ?_
  refine And.intro (And.intro (sk_2 hs) (ixL (sl_2 hs) b170)) ?_
  refine hK.1 171 [some (vR 0), some (vL w1), none, some (vI x3)] [vI (I 2 (x3.toNat)), vL (gMul 31 w1)] (sh, I, L) (0, 0) ?_
  refine hK.1 172 [some (vR 0), some (vL w1), none, some (vI x3)] [vL ((Int32.ofInt (I 2 (x3.toNat))).toInt64), vL (gMul 31 w1)] (sh, I, L) (0, 0) ?_
  refine hK.1 173 [some (vR 0), some (vL w1), none, some (vI x3)] [vL (gAdd (gMul 31 w1) ((Int32.ofInt (I 2 (x3.toNat))).toInt64))] (sh, I, L) (0, 0) ?_
  refine hK.1 174 [some (vR 0), some (vL (gAdd (gMul 31 w1) ((Int32.ofInt (I 2 (x3.toNat))).toInt64))), none, some (vI x3)] [] (sh, I, L) (0, 0) ?_
  refine hK.1 177 [some (vR 0), some (vL (gAdd (gMul 31 w1) ((Int32.ofInt (I 2 (x3.toNat))).toInt64))), none, some (vI (x3 + 1))] [] (sh, I, L) (0, 0) ?_
  exact k
set_option maxRecDepth 4000 in
theorem B_X11_digest_180 {Q : oQ} {K : oK} (hK : oCl tb_X11_digest Q K) {sh : oS} {I : Nat → Nat → Int} {L : Nat → Nat → Int64} {w1 : Int64} (k : K 182 [some (vR 0), some (vL w1), none, some (vI 0)] [] (sh, I, L) (0, 0)) : K 180 [some (vR 0), some (vL w1), none, none] [] (sh, I, L) (0, 0) := by
  refine hK.1 180 [some (vR 0), some (vL w1), none, none] [] (sh, I, L) (0, 0) ?_
  refine hK.1 181 [some (vR 0), some (vL w1), none, none] [vI 0] (sh, I, L) (0, 0) ?_
  exact k
set_option maxRecDepth 4000 in
theorem B_X11_digest_182 {Q : oQ} {K : oK} (hK : oCl tb_X11_digest Q K) {sh : oS} {I : Nat → Nat → Int} {L : Nat → Nat → Int64} {w1 : Int64} {x3 : Int} (n184a : inR x3) (kt : 5 < x3 → K 206 [none, some (vL w1), none, none] [] (sh, I, L) (0, 0)) (kf : ¬ (5 < x3) → K 187 [some (vR 0), some (vL w1), none, some (vI x3)] [] (sh, I, L) (0, 0)) : K 182 [some (vR 0), some (vL w1), none, some (vI x3)] [] (sh, I, L) (0, 0) := by
  refine hK.1 182 [some (vR 0), some (vL w1), none, some (vI x3)] [] (sh, I, L) (0, 0) ?_
  refine hK.1 183 [some (vR 0), some (vL w1), none, some (vI x3)] [vI x3] (sh, I, L) (0, 0) ?_
  refine hK.1 184 [some (vR 0), some (vL w1), none, some (vI x3)] [vI 5, vI x3] (sh, I, L) (0, 0) ?_
  exact And.intro (And.intro n184a ⟨by decide, by decide⟩) (And.intro (fun h => hK.2 [false, true, false, false] _ _ _ _ _ (kt h)) (fun h => hK.2 [true, true, false, true] _ _ _ _ _ (kf h)))
set_option maxRecDepth 4000 in
theorem B_X11_digest_187 {Q : oQ} {K : oK} (hK : oCl tb_X11_digest Q K) {sh : oS} (hs : Sh sh) {I : Nat → Nat → Int} {L : Nat → Nat → Int64} {w1 : Int64} {x3 : Int} (k : T_X11_count [vR 0, vI x3] (sh, I, L) (fun r mm => K 197 [some (vR 0), none, none, some (vI x3)] (r.toList ++ [vL (gMul 31 w1)]) mm (0, 0))) : K 187 [some (vR 0), some (vL w1), none, some (vI x3)] [] (sh, I, L) (0, 0) := by
  refine hK.1 187 [some (vR 0), some (vL w1), none, some (vI x3)] [] (sh, I, L) (0, 0) ?_
  refine hK.1 190 [some (vR 0), some (vL w1), none, some (vI x3)] [vL 31] (sh, I, L) (0, 0) ?_
  refine hK.1 191 [some (vR 0), some (vL w1), none, some (vI x3)] [vL w1, vL 31] (sh, I, L) (0, 0) ?_
  refine hK.1 192 [some (vR 0), some (vL w1), none, some (vI x3)] [vL (gMul 31 w1)] (sh, I, L) (0, 0) ?_
  refine hK.1 193 [some (vR 0), some (vL w1), none, some (vI x3)] [vR 0, vL (gMul 31 w1)] (sh, I, L) (0, 0) ?_
  refine hK.2 [true, false, false, true] _ _ _ _ _ ?_
  refine hK.1 194 [some (vR 0), none, none, some (vI x3)] [vI x3, vR 0, vL (gMul 31 w1)] (sh, I, L) (0, 0) ?_
  exact And.intro ⟨(sk_0 hs), Nat.le_of_ble_eq_true rfl, Nat.le_of_ble_eq_true rfl, Nat.le_of_ble_eq_true rfl, Nat.le_of_ble_eq_true rfl⟩ k
set_option maxRecDepth 4000 in
theorem B_X11_digest_197 {Q : oQ} {K : oK} (hK : oCl tb_X11_digest Q K) {sh : oS} {I : Nat → Nat → Int} {L : Nat → Nat → Int64} {x3 : Int} {s0 : Int64} {s1 : Int} (k : K 182 [some (vR 0), some (vL (gAdd s0 ((Int32.ofInt s1).toInt64))), none, some (vI (x3 + 1))] [] (sh, I, L) (0, 0)) : K 197 [some (vR 0), none, none, some (vI x3)] [vI s1, vL s0] (sh, I, L) (0, 0) := by
  refine hK.1 197 [some (vR 0), none, none, some (vI x3)] [vI s1, vL s0] (sh, I, L) (0, 0) ?_
  refine hK.1 198 [some (vR 0), none, none, some (vI x3)] [vL ((Int32.ofInt s1).toInt64), vL s0] (sh, I, L) (0, 0) ?_
  refine hK.1 199 [some (vR 0), none, none, some (vI x3)] [vL (gAdd s0 ((Int32.ofInt s1).toInt64))] (sh, I, L) (0, 0) ?_
  refine hK.1 200 [some (vR 0), some (vL (gAdd s0 ((Int32.ofInt s1).toInt64))), none, some (vI x3)] [] (sh, I, L) (0, 0) ?_
  refine hK.1 203 [some (vR 0), some (vL (gAdd s0 ((Int32.ofInt s1).toInt64))), none, some (vI (x3 + 1))] [] (sh, I, L) (0, 0) ?_
  exact k
set_option maxRecDepth 4000 in
theorem B_X11_digest_206 {Q : oQ} {K : oK} (hK : oCl tb_X11_digest Q K) {sh : oS} {I : Nat → Nat → Int} {L : Nat → Nat → Int64} {w1 : Int64} (k : Q (some (vL w1)) (sh, I, L)) : K 206 [none, some (vL w1), none, none] [] (sh, I, L) (0, 0) := by
  refine hK.1 206 [none, some (vL w1), none, none] [] (sh, I, L) (0, 0) ?_
  refine hK.1 207 [none, some (vL w1), none, none] [vL w1] (sh, I, L) (0, 0) ?_
  exact And.intro ⟨by decide, by decide⟩ k
set_option maxRecDepth 4000 in
theorem B_X11_far_0 {Q : oQ} {K : oK} (hK : oCl tb_X11_far Q K) {sh : oS} (hs : Sh sh) {I : Nat → Nat → Int} {L : Nat → Nat → Int64} {x1 : Int} {x2 : Int} (k : T_X11_planOf [vR 0, vI x1] (sh, I, L) (fun r mm => K 5 [some (vR 0), none, some (vI x2), none, none] (r.toList ++ []) mm (0, 0))) : K 0 [some (vR 0), some (vI x1), some (vI x2), none, none] [] (sh, I, L) (0, 0) := by
  refine hK.1 0 [some (vR 0), some (vI x1), some (vI x2), none, none] [] (sh, I, L) (0, 0) ?_
  refine hK.1 1 [some (vR 0), some (vI x1), some (vI x2), none, none] [vR 0] (sh, I, L) (0, 0) ?_
  refine hK.2 [true, false, true, false, false] _ _ _ _ _ ?_
  refine hK.1 2 [some (vR 0), none, some (vI x2), none, none] [vI x1, vR 0] (sh, I, L) (0, 0) ?_
  exact And.intro ⟨(sk_0 hs), Nat.le_of_ble_eq_true rfl, Nat.le_of_ble_eq_true rfl, Nat.le_of_ble_eq_true rfl, Nat.le_of_ble_eq_true rfl⟩ k
set_option maxRecDepth 4000 in
theorem B_X11_far_5 {Q : oQ} {K : oK} (hK : oCl tb_X11_far Q K) {sh : oS} {I : Nat → Nat → Int} {L : Nat → Nat → Int64} {x2 : Int} {s0 : Nat} (k : K 13 [some (vR 0), none, some (vI x2), some (vR s0), none] [] (sh, I, L) (0, 0)) : K 5 [some (vR 0), none, some (vI x2), none, none] [vR s0] (sh, I, L) (0, 0) := by
  refine hK.1 5 [some (vR 0), none, some (vI x2), none, none] [vR s0] (sh, I, L) (0, 0) ?_
  refine hK.1 6 [some (vR 0), none, some (vI x2), some (vR s0), none] [] (sh, I, L) (0, 0) ?_
  refine hK.1 7 [some (vR 0), none, some (vI x2), some (vR s0), none] [vR s0] (sh, I, L) (0, 0) ?_
  exact k
set_option maxRecDepth 4000 in
theorem B_X11_far_5n {Q : oQ} {K : oK} (hK : oCl tb_X11_far Q K) {sh : oS} {I : Nat → Nat → Int} {L : Nat → Nat → Int64} {x2 : Int} (k : K 10 [none, none, none, none, none] [] (sh, I, L) (0, 0)) : K 5 [some (vR 0), none, some (vI x2), none, none] [vN] (sh, I, L) (0, 0) := by
  refine hK.1 5 [some (vR 0), none, some (vI x2), none, none] [vN] (sh, I, L) (0, 0) ?_
  refine hK.1 6 [some (vR 0), none, some (vI x2), some vN, none] [] (sh, I, L) (0, 0) ?_
  refine hK.1 7 [some (vR 0), none, some (vI x2), some vN, none] [vN] (sh, I, L) (0, 0) ?_
  refine hK.2 [false, false, false, false, false] _ _ _ _ _ ?_
  exact k
set_option maxRecDepth 4000 in
theorem B_X11_far_10 {Q : oQ} {K : oK} (hK : oCl tb_X11_far Q K) {sh : oS} {I : Nat → Nat → Int} {L : Nat → Nat → Int64}  (k : Q (some (vI (-101))) (sh, I, L)) : K 10 [none, none, none, none, none] [] (sh, I, L) (0, 0) := by
  refine hK.1 10 [none, none, none, none, none] [] (sh, I, L) (0, 0) ?_
  refine hK.1 12 [none, none, none, none, none] [vI (-101)] (sh, I, L) (0, 0) ?_
  exact And.intro ⟨by decide, by decide⟩ k
set_option maxRecDepth 4000 in
theorem B_X11_far_13 {Q : oQ} {K : oK} (hK : oCl tb_X11_far Q K) {sh : oS} (hs : Sh sh) {I : Nat → Nat → Int} {L : Nat → Nat → Int64} {x2 : Int} {h3 : Nat} (n20 : inR (I 3 0)) (kt : ¬ I 3 0 = 0 → K 26 [some (vR 0), none, some (vI x2), some (vR h3), none] [] (sh, I, L) (0, 0)) (kf : ¬ (¬ I 3 0 = 0) → K 23 [none, none, none, none, none] [] (sh, I, L) (0, 0)) : K 13 [some (vR 0), none, some (vI x2), some (vR h3), none] [] (sh, I, L) (0, 0) := by
  refine hK.1 13 [some (vR 0), none, some (vI x2), some (vR h3), none] [] (sh, I, L) (0, 0) ?_
  refine hK.1 14 [some (vR 0), none, some (vI x2), some (vR h3), none] [vR 0] (sh, I, L) (0, 0) ?_
  refine And.intro (mem1 (sk_0 hs)) (Exists.intro 3 (And.intro (sr_0_1 hs) ?_))
  refine hK.1 17 [some (vR 0), none, some (vI x2), some (vR h3), none] [vR 3] (sh, I, L) (0, 0) ?_
  refine And.intro (mem1 (sk_3 hs)) ?_
  refine hK.1 20 [some (vR 0), none, some (vI x2), some (vR h3), none] [vI (I 3 0)] (sh, I, L) (0, 0) ?_
  exact And.intro (n20) (And.intro (fun h => hK.2 [true, false, true, true, false] _ _ _ _ _ (kt h)) (fun h => hK.2 [false, false, false, false, false] _ _ _ _ _ (kf h)))
set_option maxRecDepth 4000 in
theorem B_X11_far_13n {Q : oQ} {K : oK} (hK : oCl tb_X11_far Q K) {sh : oS} (hs : Sh sh) {I : Nat → Nat → Int} {L : Nat → Nat → Int64} {x2 : Int} (n20 : inR (I 3 0)) (kt : ¬ I 3 0 = 0 → K 26 [some (vR 0), none, some (vI x2), some vN, none] [] (sh, I, L) (0, 0)) (kf : ¬ (¬ I 3 0 = 0) → K 23 [none, none, none, none, none] [] (sh, I, L) (0, 0)) : K 13 [some (vR 0), none, some (vI x2), some vN, none] [] (sh, I, L) (0, 0) := by
  refine hK.1 13 [some (vR 0), none, some (vI x2), some vN, none] [] (sh, I, L) (0, 0) ?_
  refine hK.1 14 [some (vR 0), none, some (vI x2), some vN, none] [vR 0] (sh, I, L) (0, 0) ?_
  refine And.intro (mem1 (sk_0 hs)) (Exists.intro 3 (And.intro (sr_0_1 hs) ?_))
  refine hK.1 17 [some (vR 0), none, some (vI x2), some vN, none] [vR 3] (sh, I, L) (0, 0) ?_
  refine And.intro (mem1 (sk_3 hs)) ?_
  refine hK.1 20 [some (vR 0), none, some (vI x2), some vN, none] [vI (I 3 0)] (sh, I, L) (0, 0) ?_
  exact And.intro (n20) (And.intro (fun h => hK.2 [true, false, true, true, false] _ _ _ _ _ (kt h)) (fun h => hK.2 [false, false, false, false, false] _ _ _ _ _ (kf h)))
set_option maxRecDepth 4000 in
theorem B_X11_far_23 {Q : oQ} {K : oK} (hK : oCl tb_X11_far Q K) {sh : oS} {I : Nat → Nat → Int} {L : Nat → Nat → Int64}  (k : Q (some (vI (-103))) (sh, I, L)) : K 23 [none, none, none, none, none] [] (sh, I, L) (0, 0) := by
  refine hK.1 23 [none, none, none, none, none] [] (sh, I, L) (0, 0) ?_
  refine hK.1 25 [none, none, none, none, none] [vI (-103)] (sh, I, L) (0, 0) ?_
  exact And.intro ⟨by decide, by decide⟩ k
set_option maxRecDepth 4000 in
theorem B_X11_far_26 {Q : oQ} {K : oK} (hK : oCl tb_X11_far Q K) {sh : oS} {I : Nat → Nat → Int} {L : Nat → Nat → Int64} {x2 : Int} {h3 : Nat} (n28a : inR x2) (kt : x2 < 1 → K 37 [none, none, none, none, none] [] (sh, I, L) (0, 0)) (kf : ¬ (x2 < 1) → K 31 [some (vR 0), none, some (vI x2), some (vR h3), none] [] (sh, I, L) (0, 0)) : K 26 [some (vR 0), none, some (vI x2), some (vR h3), none] [] (sh, I, L) (0, 0) := by
  refine hK.1 26 [some (vR 0), none, some (vI x2), some (vR h3), none] [] (sh, I, L) (0, 0) ?_
  refine hK.1 27 [some (vR 0), none, some (vI x2), some (vR h3), none] [vI x2] (sh, I, L) (0, 0) ?_
  refine hK.1 28 [some (vR 0), none, some (vI x2), some (vR h3), none] [vI 1, vI x2] (sh, I, L) (0, 0) ?_
  exact And.intro (And.intro n28a ⟨by decide, by decide⟩) (And.intro (fun h => hK.2 [false, false, false, false, false] _ _ _ _ _ (kt h)) (fun h => hK.2 [true, false, true, true, false] _ _ _ _ _ (kf h)))
set_option maxRecDepth 4000 in
theorem B_X11_far_26n {Q : oQ} {K : oK} (hK : oCl tb_X11_far Q K) {sh : oS} {I : Nat → Nat → Int} {L : Nat → Nat → Int64} {x2 : Int} (n28a : inR x2) (kt : x2 < 1 → K 37 [none, none, none, none, none] [] (sh, I, L) (0, 0)) (kf : ¬ (x2 < 1) → K 31 [some (vR 0), none, some (vI x2), some vN, none] [] (sh, I, L) (0, 0)) : K 26 [some (vR 0), none, some (vI x2), some vN, none] [] (sh, I, L) (0, 0) := by
  refine hK.1 26 [some (vR 0), none, some (vI x2), some vN, none] [] (sh, I, L) (0, 0) ?_
  refine hK.1 27 [some (vR 0), none, some (vI x2), some vN, none] [vI x2] (sh, I, L) (0, 0) ?_
  refine hK.1 28 [some (vR 0), none, some (vI x2), some vN, none] [vI 1, vI x2] (sh, I, L) (0, 0) ?_
  exact And.intro (And.intro n28a ⟨by decide, by decide⟩) (And.intro (fun h => hK.2 [false, false, false, false, false] _ _ _ _ _ (kt h)) (fun h => hK.2 [true, false, true, true, false] _ _ _ _ _ (kf h)))
set_option maxRecDepth 4000 in
theorem B_X11_far_31 {Q : oQ} {K : oK} (hK : oCl tb_X11_far Q K) {sh : oS} {I : Nat → Nat → Int} {L : Nat → Nat → Int64} {x2 : Int} {h3 : Nat} (n34a : inR x2) (kt : x2 ≤ 99 → K 40 [some (vR 0), none, some (vI x2), some (vR h3), none] [] (sh, I, L) (0, 0)) (kf : ¬ (x2 ≤ 99) → K 37 [none, none, none, none, none] [] (sh, I, L) (0, 0)) : K 31 [some (vR 0), none, some (vI x2), some (vR h3), none] [] (sh, I, L) (0, 0) := by
  refine hK.1 31 [some (vR 0), none, some (vI x2), some (vR h3), none] [] (sh, I, L) (0, 0) ?_
  refine hK.1 32 [some (vR 0), none, some (vI x2), some (vR h3), none] [vI x2] (sh, I, L) (0, 0) ?_
  refine hK.1 34 [some (vR 0), none, some (vI x2), some (vR h3), none] [vI 99, vI x2] (sh, I, L) (0, 0) ?_
  exact And.intro (And.intro n34a ⟨by decide, by decide⟩) (And.intro (fun h => hK.2 [true, false, true, true, false] _ _ _ _ _ (kt h)) (fun h => hK.2 [false, false, false, false, false] _ _ _ _ _ (kf h)))
set_option maxRecDepth 4000 in
theorem B_X11_far_31n {Q : oQ} {K : oK} (hK : oCl tb_X11_far Q K) {sh : oS} {I : Nat → Nat → Int} {L : Nat → Nat → Int64} {x2 : Int} (n34a : inR x2) (kt : x2 ≤ 99 → K 40 [some (vR 0), none, some (vI x2), some vN, none] [] (sh, I, L) (0, 0)) (kf : ¬ (x2 ≤ 99) → K 37 [none, none, none, none, none] [] (sh, I, L) (0, 0)) : K 31 [some (vR 0), none, some (vI x2), some vN, none] [] (sh, I, L) (0, 0) := by
  refine hK.1 31 [some (vR 0), none, some (vI x2), some vN, none] [] (sh, I, L) (0, 0) ?_
  refine hK.1 32 [some (vR 0), none, some (vI x2), some vN, none] [vI x2] (sh, I, L) (0, 0) ?_
  refine hK.1 34 [some (vR 0), none, some (vI x2), some vN, none] [vI 99, vI x2] (sh, I, L) (0, 0) ?_
  exact And.intro (And.intro n34a ⟨by decide, by decide⟩) (And.intro (fun h => hK.2 [true, false, true, true, false] _ _ _ _ _ (kt h)) (fun h => hK.2 [false, false, false, false, false] _ _ _ _ _ (kf h)))
set_option maxRecDepth 4000 in
theorem B_X11_far_37 {Q : oQ} {K : oK} (hK : oCl tb_X11_far Q K) {sh : oS} {I : Nat → Nat → Int} {L : Nat → Nat → Int64}  (k : Q (some (vI (-102))) (sh, I, L)) : K 37 [none, none, none, none, none] [] (sh, I, L) (0, 0) := by
  refine hK.1 37 [none, none, none, none, none] [] (sh, I, L) (0, 0) ?_
  refine hK.1 39 [none, none, none, none, none] [vI (-102)] (sh, I, L) (0, 0) ?_
  exact And.intro ⟨by decide, by decide⟩ k
set_option maxRecDepth 4000 in
theorem B_X11_far_40 {Q : oQ} {K : oK} (hK : oCl tb_X11_far Q K) {sh : oS} (hs : Sh sh) {I : Nat → Nat → Int} {L : Nat → Nat → Int64} {x2 : Int} {h3 : Nat} (n46a : inR (I 0 11)) (kt : I 0 11 < 30 → K 52 [some (vR 0), none, some (vI x2), some (vR h3), none] [] (sh, I, L) (0, 0)) (kf : ¬ (I 0 11 < 30) → K 49 [none, none, none, none, none] [] (sh, I, L) (0, 0)) : K 40 [some (vR 0), none, some (vI x2), some (vR h3), none] [] (sh, I, L) (0, 0) := by
  refine hK.1 40 [some (vR 0), none, some (vI x2), some (vR h3), none] [] (sh, I, L) (0, 0) ?_
  refine hK.1 41 [some (vR 0), none, some (vI x2), some (vR h3), none] [vR 0] (sh, I, L) (0, 0) ?_
  refine And.intro (mem1 (sk_0 hs)) ?_
  refine hK.1 44 [some (vR 0), none, some (vI x2), some (vR h3), none] [vI (I 0 11)] (sh, I, L) (0, 0) ?_
  refine hK.1 46 [some (vR 0), none, some (vI x2), some (vR h3), none] [vI 30, vI (I 0 11)] (sh, I, L) (0, 0) ?_
  exact And.intro (And.intro n46a ⟨by decide, by decide⟩) (And.intro (fun h => hK.2 [true, false, true, true, false] _ _ _ _ _ (kt h)) (fun h => hK.2 [false, false, false, false, false] _ _ _ _ _ (kf h)))
set_option maxRecDepth 4000 in
theorem B_X11_far_40n {Q : oQ} {K : oK} (hK : oCl tb_X11_far Q K) {sh : oS} (hs : Sh sh) {I : Nat → Nat → Int} {L : Nat → Nat → Int64} {x2 : Int} (n46a : inR (I 0 11)) (kt : I 0 11 < 30 → K 52 [some (vR 0), none, some (vI x2), some vN, none] [] (sh, I, L) (0, 0)) (kf : ¬ (I 0 11 < 30) → K 49 [none, none, none, none, none] [] (sh, I, L) (0, 0)) : K 40 [some (vR 0), none, some (vI x2), some vN, none] [] (sh, I, L) (0, 0) := by
  refine hK.1 40 [some (vR 0), none, some (vI x2), some vN, none] [] (sh, I, L) (0, 0) ?_
  refine hK.1 41 [some (vR 0), none, some (vI x2), some vN, none] [vR 0] (sh, I, L) (0, 0) ?_
  refine And.intro (mem1 (sk_0 hs)) ?_
  refine hK.1 44 [some (vR 0), none, some (vI x2), some vN, none] [vI (I 0 11)] (sh, I, L) (0, 0) ?_
  refine hK.1 46 [some (vR 0), none, some (vI x2), some vN, none] [vI 30, vI (I 0 11)] (sh, I, L) (0, 0) ?_
  exact And.intro (And.intro n46a ⟨by decide, by decide⟩) (And.intro (fun h => hK.2 [true, false, true, true, false] _ _ _ _ _ (kt h)) (fun h => hK.2 [false, false, false, false, false] _ _ _ _ _ (kf h)))
set_option maxRecDepth 4000 in
theorem B_X11_far_49 {Q : oQ} {K : oK} (hK : oCl tb_X11_far Q K) {sh : oS} {I : Nat → Nat → Int} {L : Nat → Nat → Int64}  (k : Q (some (vI (-103))) (sh, I, L)) : K 49 [none, none, none, none, none] [] (sh, I, L) (0, 0) := by
  refine hK.1 49 [none, none, none, none, none] [] (sh, I, L) (0, 0) ?_
  refine hK.1 51 [none, none, none, none, none] [vI (-103)] (sh, I, L) (0, 0) ?_
  exact And.intro ⟨by decide, by decide⟩ k
set_option maxRecDepth 4000 in
theorem B_X11_far_52 {Q : oQ} {K : oK} (hK : oCl tb_X11_far Q K) {sh : oS} (hs : Sh sh) {I : Nat → Nat → Int} {L : Nat → Nat → Int64} {x2 : Int} {h3 : Nat} (k : T_X6_goForward [vR 11, vI ((I 3 0) - 1), vI x2] (sh, (u2 I 0 11 ((I 0 11) + 1)), L) (fun r mm => K 79 [some (vR 0), none, none, some (vR h3), none] (r.toList ++ []) mm (0, 0))) : K 52 [some (vR 0), none, some (vI x2), some (vR h3), none] [] (sh, I, L) (0, 0) := by
  refine hK.1 52 [some (vR 0), none, some (vI x2), some (vR h3), none] [] (sh, I, L) (0, 0) ?_
  refine hK.1 53 [some (vR 0), none, some (vI x2), some (vR h3), none] [vR 0] (sh, I, L) (0, 0) ?_
  refine hK.1 54 [some (vR 0), none, some (vI x2), some (vR h3), none] [vR 0, vR 0] (sh, I, L) (0, 0) ?_
  refine And.intro (mem1 (sk_0 hs)) ?_
  refine hK.1 57 [some (vR 0), none, some (vI x2), some (vR h3), none] [vI (I 0 11), vR 0] (sh, I, L) (0, 0) ?_
  refine hK.1 58 [some (vR 0), none, some (vI x2), some (vR h3), none] [vI 1, vI (I 0 11), vR 0] (sh, I, L) (0, 0) ?_
  refine hK.1 59 [some (vR 0), none, some (vI x2), some (vR h3), none] [vI ((I 0 11) + 1), vR 0] (sh, I, L) (0, 0) ?_
  refine And.intro (mem1 (sk_0 hs)) ?_
  refine hK.1 62 [some (vR 0), none, some (vI x2), some (vR h3), none] [] (sh, (u2 I 0 11 ((I 0 11) + 1)), L) (0, 0) ?_
  refine hK.1 63 [some (vR 0), none, some (vI x2), some (vR h3), none] [vR 0] (sh, (u2 I 0 11 ((I 0 11) + 1)), L) (0, 0) ?_
  refine And.intro (mem1 (sk_0 hs)) (Exists.intro 11 (And.intro (sr_0_5 hs) ?_))
  refine hK.1 66 [some (vR 0), none, some (vI x2), some (vR h3), none] [vR 11] (sh, (u2 I 0 11 ((I 0 11) + 1)), L) (0, 0) ?_
  refine hK.1 67 [some (vR 0), none, some (vI x2), some (vR h3), none] [vR 0, vR 11] (sh, (u2 I 0 11 ((I 0 11) + 1)), L) (0, 0) ?_
  refine And.intro (mem1 (sk_0 hs)) (Exists.intro 3 (And.intro (sr_0_1 hs) ?_))
  refine hK.1 70 [some (vR 0), none, some (vI x2), some (vR h3), none] [vR 3, vR 11] (sh, (u2 I 0 11 ((I 0 11) + 1)), L) (0, 0) ?_
  refine And.intro (mem1 (sk_3 hs)) ?_
  refine hK.1 73 [some (vR 0), none, some (vI x2), some (vR h3), none] [vI (I 3 0), vR 11] (sh, (u2 I 0 11 ((I 0 11) + 1)), L) (0, 0) ?_
  refine hK.1 74 [some (vR 0), none, some (vI x2), some (vR h3), none] [vI 1, vI (I 3 0), vR 11] (sh, (u2 I 0 11 ((I 0 11) + 1)), L) (0, 0) ?_
  refine hK.1 75 [some (vR 0), none, some (vI x2), some (vR h3), none] [vI ((I 3 0) - 1), vR 11] (sh, (u2 I 0 11 ((I 0 11) + 1)), L) (0, 0) ?_
  refine hK.2 [true, false, false, true, false] _ _ _ _ _ ?_
  refine hK.1 76 [some (vR 0), none, none, some (vR h3), none] [vI x2, vI ((I 3 0) - 1), vR 11] (sh, (u2 I 0 11 ((I 0 11) + 1)), L) (0, 0) ?_
  exact And.intro ⟨(sk_11 hs), Nat.le_of_ble_eq_true rfl, Nat.le_of_ble_eq_true rfl, Nat.le_of_ble_eq_true rfl, Nat.le_of_ble_eq_true rfl⟩ k
set_option maxRecDepth 4000 in
theorem B_X11_far_52n {Q : oQ} {K : oK} (hK : oCl tb_X11_far Q K) {sh : oS} (hs : Sh sh) {I : Nat → Nat → Int} {L : Nat → Nat → Int64} {x2 : Int} (k : T_X6_goForward [vR 11, vI ((I 3 0) - 1), vI x2] (sh, (u2 I 0 11 ((I 0 11) + 1)), L) (fun r mm => K 79 [some (vR 0), none, none, some vN, none] (r.toList ++ []) mm (0, 0))) : K 52 [some (vR 0), none, some (vI x2), some vN, none] [] (sh, I, L) (0, 0) := by
  refine hK.1 52 [some (vR 0), none, some (vI x2), some vN, none] [] (sh, I, L) (0, 0) ?_
  refine hK.1 53 [some (vR 0), none, some (vI x2), some vN, none] [vR 0] (sh, I, L) (0, 0) ?_
  refine hK.1 54 [some (vR 0), none, some (vI x2), some vN, none] [vR 0, vR 0] (sh, I, L) (0, 0) ?_
  refine And.intro (mem1 (sk_0 hs)) ?_
  refine hK.1 57 [some (vR 0), none, some (vI x2), some vN, none] [vI (I 0 11), vR 0] (sh, I, L) (0, 0) ?_
  refine hK.1 58 [some (vR 0), none, some (vI x2), some vN, none] [vI 1, vI (I 0 11), vR 0] (sh, I, L) (0, 0) ?_
  refine hK.1 59 [some (vR 0), none, some (vI x2), some vN, none] [vI ((I 0 11) + 1), vR 0] (sh, I, L) (0, 0) ?_
  refine And.intro (mem1 (sk_0 hs)) ?_
  refine hK.1 62 [some (vR 0), none, some (vI x2), some vN, none] [] (sh, (u2 I 0 11 ((I 0 11) + 1)), L) (0, 0) ?_
  refine hK.1 63 [some (vR 0), none, some (vI x2), some vN, none] [vR 0] (sh, (u2 I 0 11 ((I 0 11) + 1)), L) (0, 0) ?_
  refine And.intro (mem1 (sk_0 hs)) (Exists.intro 11 (And.intro (sr_0_5 hs) ?_))
  refine hK.1 66 [some (vR 0), none, some (vI x2), some vN, none] [vR 11] (sh, (u2 I 0 11 ((I 0 11) + 1)), L) (0, 0) ?_
  refine hK.1 67 [some (vR 0), none, some (vI x2), some vN, none] [vR 0, vR 11] (sh, (u2 I 0 11 ((I 0 11) + 1)), L) (0, 0) ?_
  refine And.intro (mem1 (sk_0 hs)) (Exists.intro 3 (And.intro (sr_0_1 hs) ?_))
  refine hK.1 70 [some (vR 0), none, some (vI x2), some vN, none] [vR 3, vR 11] (sh, (u2 I 0 11 ((I 0 11) + 1)), L) (0, 0) ?_
  refine And.intro (mem1 (sk_3 hs)) ?_
  refine hK.1 73 [some (vR 0), none, some (vI x2), some vN, none] [vI (I 3 0), vR 11] (sh, (u2 I 0 11 ((I 0 11) + 1)), L) (0, 0) ?_
  refine hK.1 74 [some (vR 0), none, some (vI x2), some vN, none] [vI 1, vI (I 3 0), vR 11] (sh, (u2 I 0 11 ((I 0 11) + 1)), L) (0, 0) ?_
  refine hK.1 75 [some (vR 0), none, some (vI x2), some vN, none] [vI ((I 3 0) - 1), vR 11] (sh, (u2 I 0 11 ((I 0 11) + 1)), L) (0, 0) ?_
  refine hK.2 [true, false, false, true, false] _ _ _ _ _ ?_
  refine hK.1 76 [some (vR 0), none, none, some vN, none] [vI x2, vI ((I 3 0) - 1), vR 11] (sh, (u2 I 0 11 ((I 0 11) + 1)), L) (0, 0) ?_
  exact And.intro ⟨(sk_11 hs), Nat.le_of_ble_eq_true rfl, Nat.le_of_ble_eq_true rfl, Nat.le_of_ble_eq_true rfl, Nat.le_of_ble_eq_true rfl⟩ k
set_option maxRecDepth 4000 in
theorem B_X11_far_79 {Q : oQ} {K : oK} (hK : oCl tb_X11_far Q K) {sh : oS} (hs : Sh sh) {I : Nat → Nat → Int} {L : Nat → Nat → Int64} {h3 : Nat} (kh3_0 : sK sh h3 ∈ [0, 1, 3, 5, 10]) (k0 : sK sh h3 = 0 → T_X0_pitch [vR h3, vR 24, vR 3, vR 11, vI (I h3 0)] (sh, I, L) (fun r mm => K 99 [some (vR 0), none, none, none, none] (r.toList ++ []) mm (0, 0))) (k1 : sK sh h3 = 1 → T_X1_pitch [vR h3, vR 24, vR 3, vR 11, vI (I h3 0)] (sh, I, L) (fun r mm => K 99 [some (vR 0), none, none, none, none] (r.toList ++ []) mm (0, 0))) (k3 : sK sh h3 = 3 → T_X3_pitch [vR h3, vR 24, vR 3, vR 11, vI (I h3 0)] (sh, I, L) (fun r mm => K 99 [some (vR 0), none, none, none, none] (r.toList ++ []) mm (0, 0))) (k5 : sK sh h3 = 5 → T_X3_pitch [vR h3, vR 24, vR 3, vR 11, vI (I h3 0)] (sh, I, L) (fun r mm => K 99 [some (vR 0), none, none, none, none] (r.toList ++ []) mm (0, 0))) (k10 : sK sh h3 = 10 → T_X10_pitch [vR h3, vR 24, vR 3, vR 11, vI (I h3 0)] (sh, I, L) (fun r mm => K 99 [some (vR 0), none, none, none, none] (r.toList ++ []) mm (0, 0))) (kb : sK sh h3 ∈ [0, 1, 3, 5, 10]) : K 79 [some (vR 0), none, none, some (vR h3), none] [] (sh, I, L) (0, 0) := by
  refine hK.1 79 [some (vR 0), none, none, some (vR h3), none] [] (sh, I, L) (0, 0) ?_
  refine hK.1 80 [some (vR 0), none, none, some (vR h3), none] [vR h3] (sh, I, L) (0, 0) ?_
  refine hK.1 81 [some (vR 0), none, none, some (vR h3), none] [vR 0, vR h3] (sh, I, L) (0, 0) ?_
  refine And.intro (mem1 (sk_0 hs)) (Exists.intro 24 (And.intro (sr_0_14 hs) ?_))
  refine hK.1 84 [some (vR 0), none, none, some (vR h3), none] [vR 24, vR h3] (sh, I, L) (0, 0) ?_
  refine hK.1 85 [some (vR 0), none, none, some (vR h3), none] [vR 0, vR 24, vR h3] (sh, I, L) (0, 0) ?_
  refine And.intro (mem1 (sk_0 hs)) (Exists.intro 3 (And.intro (sr_0_1 hs) ?_))
  refine hK.1 88 [some (vR 0), none, none, some (vR h3), none] [vR 3, vR 24, vR h3] (sh, I, L) (0, 0) ?_
  refine hK.1 89 [some (vR 0), none, none, some (vR h3), none] [vR 0, vR 3, vR 24, vR h3] (sh, I, L) (0, 0) ?_
  refine And.intro (mem1 (sk_0 hs)) (Exists.intro 11 (And.intro (sr_0_5 hs) ?_))
  refine hK.1 92 [some (vR 0), none, none, some (vR h3), none] [vR 11, vR 3, vR 24, vR h3] (sh, I, L) (0, 0) ?_
  refine hK.1 93 [some (vR 0), none, none, some (vR h3), none] [vR h3, vR 11, vR 3, vR 24, vR h3] (sh, I, L) (0, 0) ?_
  refine And.intro (kh3_0) ?_
  refine hK.2 [true, false, false, false, false] _ _ _ _ _ ?_
  refine hK.1 96 [some (vR 0), none, none, none, none] [vI (I h3 0), vR 11, vR 3, vR 24, vR h3] (sh, I, L) (0, 0) ?_
  refine And.intro ⟨Nat.le_of_ble_eq_true rfl, Nat.le_of_ble_eq_true rfl, Nat.le_of_ble_eq_true rfl, Nat.le_of_ble_eq_true rfl⟩ ?_
  simp only [List.mem_cons, List.not_mem_nil, or_false] at kb
  rcases kb with kb | kb | kb | kb | kb
  · exact ⟨(0, T_X0_pitch), List.mem_of_getElem? (i := 0) rfl, kb, k0 kb⟩
  · exact ⟨(1, T_X1_pitch), List.mem_of_getElem? (i := 1) rfl, kb, k1 kb⟩
  · exact ⟨(3, T_X3_pitch), List.mem_of_getElem? (i := 2) rfl, kb, k3 kb⟩
  · exact ⟨(5, T_X3_pitch), List.mem_of_getElem? (i := 3) rfl, kb, k5 kb⟩
  · exact ⟨(10, T_X10_pitch), List.mem_of_getElem? (i := 4) rfl, kb, k10 kb⟩
set_option maxRecDepth 4000 in
theorem B_X11_far_99 {Q : oQ} {K : oK} (hK : oCl tb_X11_far Q K) {sh : oS} (hs : Sh sh) {I : Nat → Nat → Int} {L : Nat → Nat → Int64}  (k : T_X2_firstLack [vR 24, vR 3, vR 11, vI 0, vI 0] (sh, I, L) (fun r mm => K 116 [some (vR 0), none, none, none, none] (r.toList ++ []) mm (0, 0))) : K 99 [some (vR 0), none, none, none, none] [] (sh, I, L) (0, 0) := by
  refine hK.1 99 [some (vR 0), none, none, none, none] [] (sh, I, L) (0, 0) ?_
  refine hK.1 100 [some (vR 0), none, none, none, none] [vR 0] (sh, I, L) (0, 0) ?_
  refine And.intro (mem1 (sk_0 hs)) (Exists.intro 24 (And.intro (sr_0_14 hs) ?_))
  refine hK.1 103 [some (vR 0), none, none, none, none] [vR 24] (sh, I, L) (0, 0) ?_
  refine hK.1 104 [some (vR 0), none, none, none, none] [vR 0, vR 24] (sh, I, L) (0, 0) ?_
  refine And.intro (mem1 (sk_0 hs)) (Exists.intro 3 (And.intro (sr_0_1 hs) ?_))
  refine hK.1 107 [some (vR 0), none, none, none, none] [vR 3, vR 24] (sh, I, L) (0, 0) ?_
  refine hK.1 108 [some (vR 0), none, none, none, none] [vR 0, vR 3, vR 24] (sh, I, L) (0, 0) ?_
  refine And.intro (mem1 (sk_0 hs)) (Exists.intro 11 (And.intro (sr_0_5 hs) ?_))
  refine hK.1 111 [some (vR 0), none, none, none, none] [vR 11, vR 3, vR 24] (sh, I, L) (0, 0) ?_
  refine hK.1 112 [some (vR 0), none, none, none, none] [vI 0, vR 11, vR 3, vR 24] (sh, I, L) (0, 0) ?_
  refine hK.1 113 [some (vR 0), none, none, none, none] [vI 0, vI 0, vR 11, vR 3, vR 24] (sh, I, L) (0, 0) ?_
  exact And.intro ⟨(sk_24 hs), Nat.le_of_ble_eq_true rfl, Nat.le_of_ble_eq_true rfl, Nat.le_of_ble_eq_true rfl, Nat.le_of_ble_eq_true rfl⟩ k
set_option maxRecDepth 4000 in
theorem B_X11_far_116 {Q : oQ} {K : oK} (hK : oCl tb_X11_far Q K) {sh : oS} {I : Nat → Nat → Int} {L : Nat → Nat → Int64} {s0 : Int} (n121a : inR s0) (kt : ¬ s0 = (-1) → K 134 [none, none, none, none, some (vI s0)] [] (sh, I, L) (0, 0)) (kf : ¬ (¬ s0 = (-1)) → K 124 [some (vR 0), none, none, none, none] [] (sh, I, L) (0, 0)) : K 116 [some (vR 0), none, none, none, none] [vI s0] (sh, I, L) (0, 0) := by
  refine hK.1 116 [some (vR 0), none, none, none, none] [vI s0] (sh, I, L) (0, 0) ?_
  refine hK.1 118 [some (vR 0), none, none, none, some (vI s0)] [] (sh, I, L) (0, 0) ?_
  refine hK.1 120 [some (vR 0), none, none, none, some (vI s0)] [vI s0] (sh, I, L) (0, 0) ?_
  refine hK.1 121 [some (vR 0), none, none, none, some (vI s0)] [vI (-1), vI s0] (sh, I, L) (0, 0) ?_
  exact And.intro (And.intro n121a ⟨by decide, by decide⟩) (And.intro (fun h => hK.2 [false, false, false, false, true] _ _ _ _ _ (kt h)) (fun h => hK.2 [true, false, false, false, false] _ _ _ _ _ (kf h)))
set_option maxRecDepth 4000 in
theorem B_X11_far_124 {Q : oQ} {K : oK} (hK : oCl tb_X11_far Q K) {sh : oS} (hs : Sh sh) {I : Nat → Nat → Int} {L : Nat → Nat → Int64}  (k : K 136 [none, none, none, none, none] [vI (I 11 0)] (sh, I, L) (0, 0)) : K 124 [some (vR 0), none, none, none, none] [] (sh, I, L) (0, 0) := by
  refine hK.1 124 [some (vR 0), none, none, none, none] [] (sh, I, L) (0, 0) ?_
  refine hK.1 125 [some (vR 0), none, none, none, none] [vR 0] (sh, I, L) (0, 0) ?_
  refine And.intro (mem1 (sk_0 hs)) (Exists.intro 11 (And.intro (sr_0_5 hs) ?_))
  refine hK.1 128 [some (vR 0), none, none, none, none] [vR 11] (sh, I, L) (0, 0) ?_
  refine And.intro (mem1 (sk_11 hs)) ?_
  refine hK.1 131 [some (vR 0), none, none, none, none] [vI (I 11 0)] (sh, I, L) (0, 0) ?_
  refine hK.2 [false, false, false, false, false] _ _ _ _ _ ?_
  exact k
set_option maxRecDepth 4000 in
theorem B_X11_far_134 {Q : oQ} {K : oK} (hK : oCl tb_X11_far Q K) {sh : oS} {I : Nat → Nat → Int} {L : Nat → Nat → Int64} {x4 : Int} (k : K 136 [none, none, none, none, none] [vI x4] (sh, I, L) (0, 0)) : K 134 [none, none, none, none, some (vI x4)] [] (sh, I, L) (0, 0) := by
  refine hK.1 134 [none, none, none, none, some (vI x4)] [] (sh, I, L) (0, 0) ?_
  refine hK.2 [false, false, false, false, false] _ _ _ _ _ ?_
  exact k
set_option maxRecDepth 4000 in
theorem B_X11_far_136 {Q : oQ} {K : oK} (hK : oCl tb_X11_far Q K) {sh : oS} {I : Nat → Nat → Int} {L : Nat → Nat → Int64} {s0 : Int} (k : Q (some (vI s0)) (sh, I, L)) : K 136 [none, none, none, none, none] [vI s0] (sh, I, L) (0, 0) := by
  refine hK.1 136 [none, none, none, none, none] [vI s0] (sh, I, L) (0, 0) ?_
  exact And.intro ⟨by decide, by decide⟩ k
set_option maxRecDepth 4000 in
theorem B_X11_fault_0 {Q : oQ} {K : oK} (hK : oCl tb_X11_fault Q K) {sh : oS} {I : Nat → Nat → Int} {L : Nat → Nat → Int64} {x1 : Int} (k : K (swT 0 [28, 43, 58] 73 x1) [some (vR 0), none] [] (sh, I, L) (0, 0)) (n1 : inR x1) : K 0 [some (vR 0), some (vI x1)] [] (sh, I, L) (0, 0) := by
  refine hK.1 0 [some (vR 0), some (vI x1)] [] (sh, I, L) (0, 0) ?_
  refine hK.1 1 [some (vR 0), some (vI x1)] [vI x1] (sh, I, L) (0, 0) ?_
  exact And.intro n1 (hK.2 [true, false] _ _ _ _ _ k)
set_option maxRecDepth 4000 in
theorem B_X11_fault_28 {Q : oQ} {K : oK} (hK : oCl tb_X11_fault Q K) {sh : oS} (hs : Sh sh) {I : Nat → Nat → Int} {L : Nat → Nat → Int64}  (k : T_X4_read [vR 6, vR 1] (sh, I, L) (fun r mm => K 39 [some (vR 0), none] (r.toList ++ []) mm (0, 0))) : K 28 [some (vR 0), none] [] (sh, I, L) (0, 0) := by
  refine hK.1 28 [some (vR 0), none] [] (sh, I, L) (0, 0) ?_
  refine hK.1 29 [some (vR 0), none] [vR 0] (sh, I, L) (0, 0) ?_
  refine And.intro (mem1 (sk_0 hs)) (Exists.intro 6 (And.intro (sr_0_2 hs) ?_))
  refine hK.1 32 [some (vR 0), none] [vR 6] (sh, I, L) (0, 0) ?_
  refine hK.1 33 [some (vR 0), none] [vR 0, vR 6] (sh, I, L) (0, 0) ?_
  refine And.intro (mem1 (sk_0 hs)) (Exists.intro 1 (And.intro (sr_0_0 hs) ?_))
  refine hK.1 36 [some (vR 0), none] [vR 1, vR 6] (sh, I, L) (0, 0) ?_
  exact And.intro ⟨(sk_6 hs), Nat.le_of_ble_eq_true rfl, Nat.le_of_ble_eq_true rfl, Nat.le_of_ble_eq_true rfl, Nat.le_of_ble_eq_true rfl⟩ k
set_option maxRecDepth 4000 in
theorem B_X11_fault_39 {Q : oQ} {K : oK} (hK : oCl tb_X11_fault Q K) {sh : oS} {I : Nat → Nat → Int} {L : Nat → Nat → Int64} {s0 : Int} (k : K 76 [some (vR 0), none] [] (sh, I, L) (0, 0)) : K 39 [some (vR 0), none] [vI s0] (sh, I, L) (0, 0) := by
  refine hK.1 39 [some (vR 0), none] [vI s0] (sh, I, L) (0, 0) ?_
  refine hK.1 40 [some (vR 0), none] [] (sh, I, L) (0, 0) ?_
  exact k
set_option maxRecDepth 4000 in
theorem B_X11_fault_43 {Q : oQ} {K : oK} (hK : oCl tb_X11_fault Q K) {sh : oS} (hs : Sh sh) {I : Nat → Nat → Int} {L : Nat → Nat → Int64} {q0_6 : Nat} {q0_6e q0_6p q0_6t : Nat} (r0_6 : sR sh 0 6 = some q0_6) (k : T_X6_read [vR q0_6, vR 1] (sh, I, L) (fun r mm => K 54 [some (vR 0), none] (r.toList ++ []) mm (0, 0))) (Aq0_6 : MarchAt sh q0_6 q0_6e q0_6p q0_6t) : K 43 [some (vR 0), none] [] (sh, I, L) (0, 0) := by
  refine hK.1 43 [some (vR 0), none] [] (sh, I, L) (0, 0) ?_
  refine hK.1 44 [some (vR 0), none] [vR 0] (sh, I, L) (0, 0) ?_
  refine And.intro (mem1 (sk_0 hs)) (Exists.intro q0_6 (And.intro r0_6 ?_))
  refine hK.1 47 [some (vR 0), none] [vR q0_6] (sh, I, L) (0, 0) ?_
  refine hK.1 48 [some (vR 0), none] [vR 0, vR q0_6] (sh, I, L) (0, 0) ?_
  refine And.intro (mem1 (sk_0 hs)) (Exists.intro 1 (And.intro (sr_0_0 hs) ?_))
  refine hK.1 51 [some (vR 0), none] [vR 1, vR q0_6] (sh, I, L) (0, 0) ?_
  exact And.intro ⟨Aq0_6.1, Nat.le_of_ble_eq_true rfl, Nat.le_of_ble_eq_true rfl, Nat.le_of_ble_eq_true rfl, Nat.le_of_ble_eq_true rfl⟩ k
set_option maxRecDepth 4000 in
theorem B_X11_fault_54 {Q : oQ} {K : oK} (hK : oCl tb_X11_fault Q K) {sh : oS} {I : Nat → Nat → Int} {L : Nat → Nat → Int64} {s0 : Int} (k : K 76 [some (vR 0), none] [] (sh, I, L) (0, 0)) : K 54 [some (vR 0), none] [vI s0] (sh, I, L) (0, 0) := by
  refine hK.1 54 [some (vR 0), none] [vI s0] (sh, I, L) (0, 0) ?_
  refine hK.1 55 [some (vR 0), none] [] (sh, I, L) (0, 0) ?_
  exact k
set_option maxRecDepth 4000 in
theorem B_X11_fault_58 {Q : oQ} {K : oK} (hK : oCl tb_X11_fault Q K) {sh : oS} (hs : Sh sh) {I : Nat → Nat → Int} {L : Nat → Nat → Int64} {q0_7 : Nat} {q0_7p q0_7f q0_7t : Nat} (r0_7 : sR sh 0 7 = some q0_7) (k : T_X10_read [vR q0_7, vR 1] (sh, I, L) (fun r mm => K 69 [some (vR 0), none] (r.toList ++ []) mm (0, 0))) (Aq0_7 : ToldAt sh q0_7 q0_7p q0_7f q0_7t) : K 58 [some (vR 0), none] [] (sh, I, L) (0, 0) := by
  refine hK.1 58 [some (vR 0), none] [] (sh, I, L) (0, 0) ?_
  refine hK.1 59 [some (vR 0), none] [vR 0] (sh, I, L) (0, 0) ?_
  refine And.intro (mem1 (sk_0 hs)) (Exists.intro q0_7 (And.intro r0_7 ?_))
  refine hK.1 62 [some (vR 0), none] [vR q0_7] (sh, I, L) (0, 0) ?_
  refine hK.1 63 [some (vR 0), none] [vR 0, vR q0_7] (sh, I, L) (0, 0) ?_
  refine And.intro (mem1 (sk_0 hs)) (Exists.intro 1 (And.intro (sr_0_0 hs) ?_))
  refine hK.1 66 [some (vR 0), none] [vR 1, vR q0_7] (sh, I, L) (0, 0) ?_
  exact And.intro ⟨Aq0_7.1, Nat.le_of_ble_eq_true rfl, Nat.le_of_ble_eq_true rfl, Nat.le_of_ble_eq_true rfl, Nat.le_of_ble_eq_true rfl⟩ k
set_option maxRecDepth 4000 in
theorem B_X11_fault_69 {Q : oQ} {K : oK} (hK : oCl tb_X11_fault Q K) {sh : oS} {I : Nat → Nat → Int} {L : Nat → Nat → Int64} {s0 : Int} (k : K 76 [some (vR 0), none] [] (sh, I, L) (0, 0)) : K 69 [some (vR 0), none] [vI s0] (sh, I, L) (0, 0) := by
  refine hK.1 69 [some (vR 0), none] [vI s0] (sh, I, L) (0, 0) ?_
  refine hK.1 70 [some (vR 0), none] [] (sh, I, L) (0, 0) ?_
  exact k
set_option maxRecDepth 4000 in
theorem B_X11_fault_73 {Q : oQ} {K : oK} (hK : oCl tb_X11_fault Q K) {sh : oS} {I : Nat → Nat → Int} {L : Nat → Nat → Int64}  (k : Q (some (vI (-102))) (sh, I, L)) : K 73 [none, none] [] (sh, I, L) (0, 0) := by
  refine hK.1 73 [none, none] [] (sh, I, L) (0, 0) ?_
  refine hK.1 75 [none, none] [vI (-102)] (sh, I, L) (0, 0) ?_
  exact And.intro ⟨by decide, by decide⟩ k
set_option maxRecDepth 4000 in
theorem B_X11_fault_76 {Q : oQ} {K : oK} (hK : oCl tb_X11_fault Q K) {sh : oS} (hs : Sh sh) {I : Nat → Nat → Int} {L : Nat → Nat → Int64}  (k : Q (some (vI (I 1 2))) (sh, I, L)) : K 76 [some (vR 0), none] [] (sh, I, L) (0, 0) := by
  refine hK.1 76 [some (vR 0), none] [] (sh, I, L) (0, 0) ?_
  refine hK.1 77 [some (vR 0), none] [vR 0] (sh, I, L) (0, 0) ?_
  refine And.intro (mem1 (sk_0 hs)) (Exists.intro 1 (And.intro (sr_0_0 hs) ?_))
  refine hK.1 80 [some (vR 0), none] [vR 1] (sh, I, L) (0, 0) ?_
  refine And.intro (mem1 (sk_1 hs)) ?_
  refine hK.1 83 [some (vR 0), none] [vI (I 1 2)] (sh, I, L) (0, 0) ?_
  exact And.intro ⟨by decide, by decide⟩ k
set_option maxRecDepth 4000 in
theorem B_X11_forget_0 {Q : oQ} {K : oK} (hK : oCl tb_X11_forget Q K) {sh : oS} (hs : Sh sh) {I : Nat → Nat → Int} {L : Nat → Nat → Int64}  (k : T_J7_fill_53178 [vR 41, vI (-1)] (sh, I, L) (fun r mm => K 8 [some (vR 0)] (r.toList ++ []) mm (0, 0))) : K 0 [some (vR 0)] [] (sh, I, L) (0, 0) := by
  refine hK.1 0 [some (vR 0)] [] (sh, I, L) (0, 0) ?_
  refine hK.1 1 [some (vR 0)] [vR 0] (sh, I, L) (0, 0) ?_
  refine And.intro (mem1 (sk_0 hs)) (Exists.intro 41 (And.intro (sr_0_15 hs) ?_))
  refine hK.1 4 [some (vR 0)] [vR 41] (sh, I, L) (0, 0) ?_
  refine hK.1 5 [some (vR 0)] [vI (-1), vR 41] (sh, I, L) (0, 0) ?_
  exact And.intro ⟨Nat.le_of_ble_eq_true rfl, Nat.le_of_ble_eq_true rfl, Nat.le_of_ble_eq_true rfl, Nat.le_of_ble_eq_true rfl⟩ k
set_option maxRecDepth 4000 in
theorem B_X11_forget_8 {Q : oQ} {K : oK} (hK : oCl tb_X11_forget Q K) {sh : oS} (hs : Sh sh) {I : Nat → Nat → Int} {L : Nat → Nat → Int64}  (k : T_J7_fill_53178 [vR 42, vI (-1)] (sh, I, L) (fun r mm => K 16 [some (vR 0)] (r.toList ++ []) mm (0, 0))) : K 8 [some (vR 0)] [] (sh, I, L) (0, 0) := by
  refine hK.1 8 [some (vR 0)] [] (sh, I, L) (0, 0) ?_
  refine hK.1 9 [some (vR 0)] [vR 0] (sh, I, L) (0, 0) ?_
  refine And.intro (mem1 (sk_0 hs)) (Exists.intro 42 (And.intro (sr_0_16 hs) ?_))
  refine hK.1 12 [some (vR 0)] [vR 42] (sh, I, L) (0, 0) ?_
  refine hK.1 13 [some (vR 0)] [vI (-1), vR 42] (sh, I, L) (0, 0) ?_
  exact And.intro ⟨Nat.le_of_ble_eq_true rfl, Nat.le_of_ble_eq_true rfl, Nat.le_of_ble_eq_true rfl, Nat.le_of_ble_eq_true rfl⟩ k
set_option maxRecDepth 4000 in
theorem B_X11_forget_16 {Q : oQ} {K : oK} (hK : oCl tb_X11_forget Q K) {sh : oS} (hs : Sh sh) {I : Nat → Nat → Int} {L : Nat → Nat → Int64}  (k : T_J7_fill_53178 [vR 43, vI (-1)] (sh, I, L) (fun r mm => K 24 [none] (r.toList ++ []) mm (0, 0))) : K 16 [some (vR 0)] [] (sh, I, L) (0, 0) := by
  refine hK.1 16 [some (vR 0)] [] (sh, I, L) (0, 0) ?_
  refine hK.1 17 [some (vR 0)] [vR 0] (sh, I, L) (0, 0) ?_
  refine And.intro (mem1 (sk_0 hs)) (Exists.intro 43 (And.intro (sr_0_17 hs) ?_))
  refine hK.1 20 [some (vR 0)] [vR 43] (sh, I, L) (0, 0) ?_
  refine hK.2 [false] _ _ _ _ _ ?_
  refine hK.1 21 [none] [vI (-1), vR 43] (sh, I, L) (0, 0) ?_
  exact And.intro ⟨Nat.le_of_ble_eq_true rfl, Nat.le_of_ble_eq_true rfl, Nat.le_of_ble_eq_true rfl, Nat.le_of_ble_eq_true rfl⟩ k
set_option maxRecDepth 4000 in
theorem B_X11_forget_24 {Q : oQ} {K : oK} (hK : oCl tb_X11_forget Q K) {sh : oS} {I : Nat → Nat → Int} {L : Nat → Nat → Int64}  (k : Q none (sh, I, L)) : K 24 [none] [] (sh, I, L) (0, 0) := by
  refine hK.1 24 [none] [] (sh, I, L) (0, 0) ?_
  exact And.intro rfl (And.intro ⟨by decide, by decide⟩ k)
set_option maxRecDepth 4000 in
theorem B_X11_flour_0 {Q : oQ} {K : oK} (hK : oCl tb_X11_flour Q K) {sh : oS} (hs : Sh sh) {I : Nat → Nat → Int} {L : Nat → Nat → Int64} {x1 : Int} {x2 : Int} (k : T_X4_has [vR 3, vI x1] (sh, I, L) (fun r mm => K 8 [some (vR 0), some (vI x1), some (vI x2), none] (r.toList ++ []) mm (0, 0))) : K 0 [some (vR 0), some (vI x1), some (vI x2), none] [] (sh, I, L) (0, 0) := by
  refine hK.1 0 [some (vR 0), some (vI x1), some (vI x2), none] [] (sh, I, L) (0, 0) ?_
  refine hK.1 1 [some (vR 0), some (vI x1), some (vI x2), none] [vR 0] (sh, I, L) (0, 0) ?_
  refine And.intro (mem1 (sk_0 hs)) (Exists.intro 3 (And.intro (sr_0_1 hs) ?_))
  refine hK.1 4 [some (vR 0), some (vI x1), some (vI x2), none] [vR 3] (sh, I, L) (0, 0) ?_
  refine hK.1 5 [some (vR 0), some (vI x1), some (vI x2), none] [vI x1, vR 3] (sh, I, L) (0, 0) ?_
  exact And.intro ⟨(sk_3 hs), Nat.le_of_ble_eq_true rfl, Nat.le_of_ble_eq_true rfl, Nat.le_of_ble_eq_true rfl, Nat.le_of_ble_eq_true rfl⟩ k
set_option maxRecDepth 4000 in
theorem B_X11_flour_8 {Q : oQ} {K : oK} (hK : oCl tb_X11_flour Q K) {sh : oS} {I : Nat → Nat → Int} {L : Nat → Nat → Int64} {x1 : Int} {x2 : Int} {s0 : Int} (n8 : inR s0) (kt : ¬ s0 = 0 → K 14 [some (vR 0), some (vI x1), some (vI x2), none] [] (sh, I, L) (0, 0)) (kf : ¬ (¬ s0 = 0) → K 11 [none, none, none, none] [] (sh, I, L) (0, 0)) : K 8 [some (vR 0), some (vI x1), some (vI x2), none] [vI s0] (sh, I, L) (0, 0) := by
  refine hK.1 8 [some (vR 0), some (vI x1), some (vI x2), none] [vI s0] (sh, I, L) (0, 0) ?_
  exact And.intro (n8) (And.intro (fun h => hK.2 [true, true, true, false] _ _ _ _ _ (kt h)) (fun h => hK.2 [false, false, false, false] _ _ _ _ _ (kf h)))
set_option maxRecDepth 4000 in
theorem B_X11_flour_11 {Q : oQ} {K : oK} (hK : oCl tb_X11_flour Q K) {sh : oS} {I : Nat → Nat → Int} {L : Nat → Nat → Int64}  (k : Q (some (vI (-101))) (sh, I, L)) : K 11 [none, none, none, none] [] (sh, I, L) (0, 0) := by
  refine hK.1 11 [none, none, none, none] [] (sh, I, L) (0, 0) ?_
  refine hK.1 13 [none, none, none, none] [vI (-101)] (sh, I, L) (0, 0) ?_
  exact And.intro ⟨by decide, by decide⟩ k
set_option maxRecDepth 4000 in
theorem B_X11_flour_14 {Q : oQ} {K : oK} (hK : oCl tb_X11_flour Q K) {sh : oS} {I : Nat → Nat → Int} {L : Nat → Nat → Int64} {x1 : Int} {x2 : Int} (n15 : inR x2) (kt : x2 < 0 → K 25 [none, none, none, none] [] (sh, I, L) (0, 0)) (kf : ¬ (x2 < 0) → K 18 [some (vR 0), some (vI x1), some (vI x2), none] [] (sh, I, L) (0, 0)) : K 14 [some (vR 0), some (vI x1), some (vI x2), none] [] (sh, I, L) (0, 0) := by
  refine hK.1 14 [some (vR 0), some (vI x1), some (vI x2), none] [] (sh, I, L) (0, 0) ?_
  refine hK.1 15 [some (vR 0), some (vI x1), some (vI x2), none] [vI x2] (sh, I, L) (0, 0) ?_
  exact And.intro (n15) (And.intro (fun h => hK.2 [false, false, false, false] _ _ _ _ _ (kt h)) (fun h => hK.2 [true, true, true, false] _ _ _ _ _ (kf h)))
set_option maxRecDepth 4000 in
theorem B_X11_flour_18 {Q : oQ} {K : oK} (hK : oCl tb_X11_flour Q K) {sh : oS} {I : Nat → Nat → Int} {L : Nat → Nat → Int64} {x1 : Int} {x2 : Int} (n22a : inR x2) (kt : x2 ≤ 999 → K 28 [some (vR 0), some (vI x1), some (vI x2), none] [] (sh, I, L) (0, 0)) (kf : ¬ (x2 ≤ 999) → K 25 [none, none, none, none] [] (sh, I, L) (0, 0)) : K 18 [some (vR 0), some (vI x1), some (vI x2), none] [] (sh, I, L) (0, 0) := by
  refine hK.1 18 [some (vR 0), some (vI x1), some (vI x2), none] [] (sh, I, L) (0, 0) ?_
  refine hK.1 19 [some (vR 0), some (vI x1), some (vI x2), none] [vI x2] (sh, I, L) (0, 0) ?_
  refine hK.1 22 [some (vR 0), some (vI x1), some (vI x2), none] [vI 999, vI x2] (sh, I, L) (0, 0) ?_
  exact And.intro (And.intro n22a ⟨by decide, by decide⟩) (And.intro (fun h => hK.2 [true, true, true, false] _ _ _ _ _ (kt h)) (fun h => hK.2 [false, false, false, false] _ _ _ _ _ (kf h)))
set_option maxRecDepth 4000 in
theorem B_X11_flour_25 {Q : oQ} {K : oK} (hK : oCl tb_X11_flour Q K) {sh : oS} {I : Nat → Nat → Int} {L : Nat → Nat → Int64}  (k : Q (some (vI (-102))) (sh, I, L)) : K 25 [none, none, none, none] [] (sh, I, L) (0, 0) := by
  refine hK.1 25 [none, none, none, none] [] (sh, I, L) (0, 0) ?_
  refine hK.1 27 [none, none, none, none] [vI (-102)] (sh, I, L) (0, 0) ?_
  exact And.intro ⟨by decide, by decide⟩ k
set_option maxRecDepth 4000 in
theorem B_X11_flour_28 {Q : oQ} {K : oK} (hK : oCl tb_X11_flour Q K) {sh : oS} (hs : Sh sh) {I : Nat → Nat → Int} {L : Nat → Nat → Int64} {x1 : Int} {x2 : Int} (b36 : 0 ≤ x1 ∧ x1 < 8) (k : T_X11_forget [vR 0] (sh, (u2 I 4 (x1.toNat) x2), L) (fun r mm => K 52 [none, none, none, some (vI (I 4 (x1.toNat)))] (r.toList ++ []) mm (0, 0))) : K 28 [some (vR 0), some (vI x1), some (vI x2), none] [] (sh, I, L) (0, 0) := by
  refine hK.1 28 [some (vR 0), some (vI x1), some (vI x2), none] [] (sh, I, L) (0, 0) ?_
  refine hK.1 29 [some (vR 0), some (vI x1), some (vI x2), none] [vR 0] (sh, I, L) (0, 0) ?_
  refine And.intro (mem1 (sk_0 hs)) (Exists.intro 3 (And.intro (sr_0_1 hs) ?_))
  refine hK.1 32 [some (vR 0), some (vI x1), some (vI x2), none] [vR 3] (sh, I, L) (0, 0) ?_
  refine And.intro (mem1 (sk_3 hs)) (Exists.intro 4 (And.intro (sr_3_1 hs) ?_))
  refine hK.1 35 [some (vR 0), some (vI x1), some (vI x2), none] [vR 4] (sh, I, L) (0, 0) ?_
  refine hK.1 36 [some (vR 0), some (vI x1), some (vI x2), none] [vI x1, vR 4] (sh, I, L) (0, 0) ?_
  refine And.intro (And.intro (sk_4 hs) (ixL (sl_4 hs) b36)) ?_
  refine hK.1 37 [some (vR 0), some (vI x1), some (vI x2), none] [vI (I 4 (x1.toNat))] (sh, I, L) (0, 0) ?_
  refine hK.1 38 [some (vR 0), some (vI x1), some (vI x2), some (vI (I 4 (x1.toNat)))] [] (sh, I, L) (0, 0) ?_
  refine hK.1 39 [some (vR 0), some (vI x1), some (vI x2), some (vI (I 4 (x1.toNat)))] [vR 0] (sh, I, L) (0, 0) ?_
  refine And.intro (mem1 (sk_0 hs)) (Exists.intro 3 (And.intro (sr_0_1 hs) ?_))
  refine hK.1 42 [some (vR 0), some (vI x1), some (vI x2), some (vI (I 4 (x1.toNat)))] [vR 3] (sh, I, L) (0, 0) ?_
  refine And.intro (mem1 (sk_3 hs)) (Exists.intro 4 (And.intro (sr_3_1 hs) ?_))
  refine hK.1 45 [some (vR 0), some (vI x1), some (vI x2), some (vI (I 4 (x1.toNat)))] [vR 4] (sh, I, L) (0, 0) ?_
  refine hK.1 46 [some (vR 0), some (vI x1), some (vI x2), some (vI (I 4 (x1.toNat)))] [vI x1, vR 4] (sh, I, L) (0, 0) ?_
  refine hK.1 47 [some (vR 0), some (vI x1), some (vI x2), some (vI (I 4 (x1.toNat)))] [vI x2, vI x1, vR 4] (sh, I, L) (0, 0) ?_
  refine And.intro (And.intro (sk_4 hs) (ixL (sl_4 hs) b36)) ?_
  refine hK.1 48 [some (vR 0), some (vI x1), some (vI x2), some (vI (I 4 (x1.toNat)))] [] (sh, (u2 I 4 (x1.toNat) x2), L) (0, 0) ?_
  refine hK.2 [false, false, false, true] _ _ _ _ _ ?_
  refine hK.1 49 [none, none, none, some (vI (I 4 (x1.toNat)))] [vR 0] (sh, (u2 I 4 (x1.toNat) x2), L) (0, 0) ?_
  exact And.intro ⟨(sk_0 hs), Nat.le_of_ble_eq_true rfl, Nat.le_of_ble_eq_true rfl, Nat.le_of_ble_eq_true rfl, Nat.le_of_ble_eq_true rfl⟩ k
set_option maxRecDepth 4000 in
theorem B_X11_flour_52 {Q : oQ} {K : oK} (hK : oCl tb_X11_flour Q K) {sh : oS} {I : Nat → Nat → Int} {L : Nat → Nat → Int64} {x3 : Int} (k : Q (some (vI x3)) (sh, I, L)) : K 52 [none, none, none, some (vI x3)] [] (sh, I, L) (0, 0) := by
  refine hK.1 52 [none, none, none, some (vI x3)] [] (sh, I, L) (0, 0) ?_
  refine hK.1 53 [none, none, none, some (vI x3)] [vI x3] (sh, I, L) (0, 0) ?_
  exact And.intro ⟨by decide, by decide⟩ k
set_option maxRecDepth 4000 in
theorem B_X11_hungry_0 {Q : oQ} {K : oK} (hK : oCl tb_X11_hungry Q K) {sh : oS} (hs : Sh sh) {I : Nat → Nat → Int} {L : Nat → Nat → Int64} {x1 : Int} {x2 : Int} {x3 : Int} (k : T_X11_wayRefusal [vR 0, vI x1, vI x2, vI x3] (sh, I, L) (fun r mm => K 7 [some (vR 0), some (vI x1), some (vI x2), some (vI x3), none] (r.toList ++ []) mm (0, 0))) : K 0 [some (vR 0), some (vI x1), some (vI x2), some (vI x3), none] [] (sh, I, L) (0, 0) := by
  refine hK.1 0 [some (vR 0), some (vI x1), some (vI x2), some (vI x3), none] [] (sh, I, L) (0, 0) ?_
  refine hK.1 1 [some (vR 0), some (vI x1), some (vI x2), some (vI x3), none] [vR 0] (sh, I, L) (0, 0) ?_
  refine hK.1 2 [some (vR 0), some (vI x1), some (vI x2), some (vI x3), none] [vI x1, vR 0] (sh, I, L) (0, 0) ?_
  refine hK.1 3 [some (vR 0), some (vI x1), some (vI x2), some (vI x3), none] [vI x2, vI x1, vR 0] (sh, I, L) (0, 0) ?_
  refine hK.1 4 [some (vR 0), some (vI x1), some (vI x2), some (vI x3), none] [vI x3, vI x2, vI x1, vR 0] (sh, I, L) (0, 0) ?_
  exact And.intro ⟨(sk_0 hs), Nat.le_of_ble_eq_true rfl, Nat.le_of_ble_eq_true rfl, Nat.le_of_ble_eq_true rfl, Nat.le_of_ble_eq_true rfl⟩ k
set_option maxRecDepth 4000 in
theorem B_X11_hungry_7 {Q : oQ} {K : oK} (hK : oCl tb_X11_hungry Q K) {sh : oS} {I : Nat → Nat → Int} {L : Nat → Nat → Int64} {x1 : Int} {x2 : Int} {x3 : Int} {s0 : Int} (n11 : inR s0) (kt : s0 = 0 → K 19 [some (vR 0), some (vI x1), some (vI x2), some (vI x3), none] [] (sh, I, L) (0, 0)) (kf : ¬ (s0 = 0) → K 14 [none, none, none, none, some (vI s0)] [] (sh, I, L) (0, 0)) : K 7 [some (vR 0), some (vI x1), some (vI x2), some (vI x3), none] [vI s0] (sh, I, L) (0, 0) := by
  refine hK.1 7 [some (vR 0), some (vI x1), some (vI x2), some (vI x3), none] [vI s0] (sh, I, L) (0, 0) ?_
  refine hK.1 9 [some (vR 0), some (vI x1), some (vI x2), some (vI x3), some (vI s0)] [] (sh, I, L) (0, 0) ?_
  refine hK.1 11 [some (vR 0), some (vI x1), some (vI x2), some (vI x3), some (vI s0)] [vI s0] (sh, I, L) (0, 0) ?_
  exact And.intro (n11) (And.intro (fun h => hK.2 [true, true, true, true, false] _ _ _ _ _ (kt h)) (fun h => hK.2 [false, false, false, false, true] _ _ _ _ _ (kf h)))
set_option maxRecDepth 4000 in
theorem B_X11_hungry_14 {Q : oQ} {K : oK} (hK : oCl tb_X11_hungry Q K) {sh : oS} {I : Nat → Nat → Int} {L : Nat → Nat → Int64} {x4 : Int} (k : K 31 [none, none, none, none, none] [vI x4] (sh, I, L) (0, 0)) : K 14 [none, none, none, none, some (vI x4)] [] (sh, I, L) (0, 0) := by
  refine hK.1 14 [none, none, none, none, some (vI x4)] [] (sh, I, L) (0, 0) ?_
  refine hK.1 16 [none, none, none, none, some (vI x4)] [vI x4] (sh, I, L) (0, 0) ?_
  refine hK.2 [false, false, false, false, false] _ _ _ _ _ ?_
  exact k
set_option maxRecDepth 4000 in
theorem B_X11_hungry_19 {Q : oQ} {K : oK} (hK : oCl tb_X11_hungry Q K) {sh : oS} (hs : Sh sh) {I : Nat → Nat → Int} {L : Nat → Nat → Int64} {x1 : Int} {x2 : Int} {x3 : Int} (k : T_X11_solved [vR 0, vI x1, vI x2, vI x3] (sh, I, L) (fun r mm => K 30 [none, none, none, none, none] (r.toList ++ [vR 41]) mm (0, 0))) : K 19 [some (vR 0), some (vI x1), some (vI x2), some (vI x3), none] [] (sh, I, L) (0, 0) := by
  refine hK.1 19 [some (vR 0), some (vI x1), some (vI x2), some (vI x3), none] [] (sh, I, L) (0, 0) ?_
  refine hK.1 20 [some (vR 0), some (vI x1), some (vI x2), some (vI x3), none] [vR 0] (sh, I, L) (0, 0) ?_
  refine And.intro (mem1 (sk_0 hs)) (Exists.intro 41 (And.intro (sr_0_15 hs) ?_))
  refine hK.1 23 [some (vR 0), some (vI x1), some (vI x2), some (vI x3), none] [vR 41] (sh, I, L) (0, 0) ?_
  refine hK.1 24 [some (vR 0), some (vI x1), some (vI x2), some (vI x3), none] [vR 0, vR 41] (sh, I, L) (0, 0) ?_
  refine hK.1 25 [some (vR 0), some (vI x1), some (vI x2), some (vI x3), none] [vI x1, vR 0, vR 41] (sh, I, L) (0, 0) ?_
  refine hK.1 26 [some (vR 0), some (vI x1), some (vI x2), some (vI x3), none] [vI x2, vI x1, vR 0, vR 41] (sh, I, L) (0, 0) ?_
  refine hK.2 [false, false, false, false, false] _ _ _ _ _ ?_
  refine hK.1 27 [none, none, none, none, none] [vI x3, vI x2, vI x1, vR 0, vR 41] (sh, I, L) (0, 0) ?_
  exact And.intro ⟨(sk_0 hs), Nat.le_of_ble_eq_true rfl, Nat.le_of_ble_eq_true rfl, Nat.le_of_ble_eq_true rfl, Nat.le_of_ble_eq_true rfl⟩ k
set_option maxRecDepth 4000 in
theorem B_X11_hungry_30 {Q : oQ} {K : oK} (hK : oCl tb_X11_hungry Q K) {sh : oS} (hs : Sh sh) {I : Nat → Nat → Int} {L : Nat → Nat → Int64} {s1 : Int} (b30 : 0 ≤ s1 ∧ s1 < 128) (k : K 31 [none, none, none, none, none] [vI (I 41 (s1.toNat))] (sh, I, L) (0, 0)) : K 30 [none, none, none, none, none] [vI s1, vR 41] (sh, I, L) (0, 0) := by
  refine hK.1 30 [none, none, none, none, none] [vI s1, vR 41] (sh, I, L) (0, 0) ?_
  refine And.intro (And.intro (sk_41 hs) (ixL (sl_41 hs) b30)) ?_
  exact k
set_option maxRecDepth 4000 in
theorem B_X11_hungry_31 {Q : oQ} {K : oK} (hK : oCl tb_X11_hungry Q K) {sh : oS} {I : Nat → Nat → Int} {L : Nat → Nat → Int64} {s0 : Int} (k : Q (some (vI s0)) (sh, I, L)) : K 31 [none, none, none, none, none] [vI s0] (sh, I, L) (0, 0) := by
  refine hK.1 31 [none, none, none, none, none] [vI s0] (sh, I, L) (0, 0) ?_
  exact And.intro ⟨by decide, by decide⟩ k
set_option maxRecDepth 4000 in
theorem B_X11_image_0 {Q : oQ} {K : oK} (hK : oCl tb_X11_image Q K) {sh : oS} (hs : Sh sh) {I : Nat → Nat → Int} {L : Nat → Nat → Int64}  (n7 : inR (I 3 0)) (kt : ¬ I 3 0 = 0 → K 13 [some (vR 0)] [] (sh, I, L) (0, 0)) (kf : ¬ (¬ I 3 0 = 0) → K 10 [none] [] (sh, I, L) (0, 0)) : K 0 [some (vR 0)] [] (sh, I, L) (0, 0) := by
  refine hK.1 0 [some (vR 0)] [] (sh, I, L) (0, 0) ?_
  refine hK.1 1 [some (vR 0)] [vR 0] (sh, I, L) (0, 0) ?_
  refine And.intro (mem1 (sk_0 hs)) (Exists.intro 3 (And.intro (sr_0_1 hs) ?_))
  refine hK.1 4 [some (vR 0)] [vR 3] (sh, I, L) (0, 0) ?_
  refine And.intro (mem1 (sk_3 hs)) ?_
  refine hK.1 7 [some (vR 0)] [vI (I 3 0)] (sh, I, L) (0, 0) ?_
  exact And.intro (n7) (And.intro (fun h => hK.2 [true] _ _ _ _ _ (kt h)) (fun h => hK.2 [false] _ _ _ _ _ (kf h)))
set_option maxRecDepth 4000 in
theorem B_X11_image_10 {Q : oQ} {K : oK} (hK : oCl tb_X11_image Q K) {sh : oS} {I : Nat → Nat → Int} {L : Nat → Nat → Int64}  (k : Q (some (vI (-103))) (sh, I, L)) : K 10 [none] [] (sh, I, L) (0, 0) := by
  refine hK.1 10 [none] [] (sh, I, L) (0, 0) ?_
  refine hK.1 12 [none] [vI (-103)] (sh, I, L) (0, 0) ?_
  exact And.intro ⟨by decide, by decide⟩ k
set_option maxRecDepth 4000 in
theorem B_X11_image_13 {Q : oQ} {K : oK} (hK : oCl tb_X11_image Q K) {sh : oS} (hs : Sh sh) {I : Nat → Nat → Int} {L : Nat → Nat → Int64}  (c28 : (0 : Int) ≤ 8 ∧ (0 : Int) ≤ 0 ∧ (0 : Int) ≤ 0 ∧ (0 : Int) + 8 ≤ 8 ∧ (0 : Int) + 8 ≤ 8) (k : T_X4_allFlour [vR 3] (sh, (u2 (oCpy I 4 0 23 0 8) 0 13 ((oCpy I 4 0 23 0 8) 0 10)), L) (fun r mm => K 46 [none] (r.toList ++ []) mm (0, 0))) : K 13 [some (vR 0)] [] (sh, I, L) (0, 0) := by
  refine hK.1 13 [some (vR 0)] [] (sh, I, L) (0, 0) ?_
  refine hK.1 14 [some (vR 0)] [vR 0] (sh, I, L) (0, 0) ?_
  refine And.intro (mem1 (sk_0 hs)) (Exists.intro 3 (And.intro (sr_0_1 hs) ?_))
  refine hK.1 17 [some (vR 0)] [vR 3] (sh, I, L) (0, 0) ?_
  refine And.intro (mem1 (sk_3 hs)) (Exists.intro 4 (And.intro (sr_3_1 hs) ?_))
  refine hK.1 20 [some (vR 0)] [vR 4] (sh, I, L) (0, 0) ?_
  refine hK.1 21 [some (vR 0)] [vI 0, vR 4] (sh, I, L) (0, 0) ?_
  refine hK.1 22 [some (vR 0)] [vR 0, vI 0, vR 4] (sh, I, L) (0, 0) ?_
  refine And.intro (mem1 (sk_0 hs)) (Exists.intro 23 (And.intro (sr_0_12 hs) ?_))
  refine hK.1 25 [some (vR 0)] [vR 23, vI 0, vR 4] (sh, I, L) (0, 0) ?_
  refine hK.1 26 [some (vR 0)] [vI 0, vR 23, vI 0, vR 4] (sh, I, L) (0, 0) ?_
  refine hK.1 28 [some (vR 0)] [vI 8, vI 0, vR 23, vI 0, vR 4] (sh, I, L) (0, 0) ?_
  refine And.intro ⟨sk_4 hs, sk_23 hs, c28.1, c28.2.1, c28.2.2.1, cpL (sl_4 hs) c28.2.2.2.1, cpL (sl_23 hs) c28.2.2.2.2, Nat.le_of_ble_eq_true rfl⟩ ?_
  refine hK.1 31 [some (vR 0)] [] (sh, (oCpy I 4 0 23 0 8), L) (0, 0) ?_
  refine hK.1 32 [some (vR 0)] [vR 0] (sh, (oCpy I 4 0 23 0 8), L) (0, 0) ?_
  refine hK.1 33 [some (vR 0)] [vR 0, vR 0] (sh, (oCpy I 4 0 23 0 8), L) (0, 0) ?_
  refine And.intro (mem1 (sk_0 hs)) ?_
  refine hK.1 36 [some (vR 0)] [vI ((oCpy I 4 0 23 0 8) 0 10), vR 0] (sh, (oCpy I 4 0 23 0 8), L) (0, 0) ?_
  refine And.intro (mem1 (sk_0 hs)) ?_
  refine hK.1 39 [some (vR 0)] [] (sh, (u2 (oCpy I 4 0 23 0 8) 0 13 ((oCpy I 4 0 23 0 8) 0 10)), L) (0, 0) ?_
  refine hK.1 40 [some (vR 0)] [vR 0] (sh, (u2 (oCpy I 4 0 23 0 8) 0 13 ((oCpy I 4 0 23 0 8) 0 10)), L) (0, 0) ?_
  refine And.intro (mem1 (sk_0 hs)) (Exists.intro 3 (And.intro (sr_0_1 hs) ?_))
  refine hK.2 [false] _ _ _ _ _ ?_
  refine hK.1 43 [none] [vR 3] (sh, (u2 (oCpy I 4 0 23 0 8) 0 13 ((oCpy I 4 0 23 0 8) 0 10)), L) (0, 0) ?_
  exact And.intro ⟨(sk_3 hs), Nat.le_of_ble_eq_true rfl, Nat.le_of_ble_eq_true rfl, Nat.le_of_ble_eq_true rfl, Nat.le_of_ble_eq_true rfl⟩ k
set_option maxRecDepth 4000 in
theorem B_X11_image_46 {Q : oQ} {K : oK} (hK : oCl tb_X11_image Q K) {sh : oS} {I : Nat → Nat → Int} {L : Nat → Nat → Int64} {s0 : Int} (k : Q (some (vI s0)) (sh, I, L)) : K 46 [none] [vI s0] (sh, I, L) (0, 0) := by
  refine hK.1 46 [none] [vI s0] (sh, I, L) (0, 0) ?_
  exact And.intro ⟨by decide, by decide⟩ k
set_option maxRecDepth 4000 in
theorem B_X11_init_0 {Q : oQ} {K : oK} (hK : oCl tb_X11_init Q K) {sh : oS} {I : Nat → Nat → Int} {L : Nat → Nat → Int64} {h0 : Nat} (k : T_X8_init [vR (sN sh)] ((sNew sh 8 0), (iNew sh I), (lNew sh L)) (fun r mm => K 12 [some (vR h0)] (r.toList ++ [vR (sN sh), vR h0]) mm (2, 63))) : K 0 [some (vR h0)] [] (sh, I, L) (0, 0) := by
  refine hK.1 0 [some (vR h0)] [] (sh, I, L) (0, 0) ?_
  refine hK.1 1 [some (vR h0)] [vR h0] (sh, I, L) (0, 0) ?_
  refine And.intro (Nat.le_of_ble_eq_true rfl) ?_
  refine hK.1 4 [some (vR h0)] [] (sh, I, L) (0, 0) ?_
  refine hK.1 5 [some (vR h0)] [vR h0] (sh, I, L) (0, 0) ?_
  refine And.intro ⟨by decide, by decide⟩ ?_
  refine hK.1 8 [some (vR h0)] [vR (sN sh), vR h0] ((sNew sh 8 0), (iNew sh I), (lNew sh L)) (1, 3) ?_
  refine hK.1 9 [some (vR h0)] [vR (sN sh), vR (sN sh), vR h0] ((sNew sh 8 0), (iNew sh I), (lNew sh L)) (1, 3) ?_
  exact And.intro ⟨Nat.le_of_ble_eq_true rfl, Nat.le_of_ble_eq_true rfl, Nat.le_of_ble_eq_true rfl, Nat.le_of_ble_eq_true rfl⟩ k
set_option maxRecDepth 4000 in
theorem B_X11_init_12 {Q : oQ} {K : oK} (hK : oCl tb_X11_init Q K) {sh : oS} {I : Nat → Nat → Int} {L : Nat → Nat → Int64} {h0 : Nat} {s0 : Nat} {s1 : Nat} (ks0_0 : sK sh s0 = 11) (k : K 15 [some (vR h0)] [] ((sPutR sh s0 0 (some s1)), I, L) (2, 63)) : K 12 [some (vR h0)] [vR s1, vR s0] (sh, I, L) (2, 63) := by
  refine hK.1 12 [some (vR h0)] [vR s1, vR s0] (sh, I, L) (2, 63) ?_
  refine And.intro (mem1 ks0_0) ?_
  exact k
set_option maxRecDepth 4000 in
theorem B_X11_init_15 {Q : oQ} {K : oK} (hK : oCl tb_X11_init Q K) {sh : oS} {I : Nat → Nat → Int} {L : Nat → Nat → Int64} {h0 : Nat} (k : T_X4_init [vR (sN sh)] ((sNew sh 4 0), (iNew sh I), (lNew sh L)) (fun r mm => K 23 [some (vR h0)] (r.toList ++ [vR (sN sh), vR h0]) mm (5, 86))) : K 15 [some (vR h0)] [] (sh, I, L) (2, 63) := by
  refine hK.1 15 [some (vR h0)] [] (sh, I, L) (2, 63) ?_
  refine hK.1 16 [some (vR h0)] [vR h0] (sh, I, L) (2, 63) ?_
  refine And.intro ⟨by decide, by decide⟩ ?_
  refine hK.1 19 [some (vR h0)] [vR (sN sh), vR h0] ((sNew sh 4 0), (iNew sh I), (lNew sh L)) (3, 70) ?_
  refine hK.1 20 [some (vR h0)] [vR (sN sh), vR (sN sh), vR h0] ((sNew sh 4 0), (iNew sh I), (lNew sh L)) (3, 70) ?_
  exact And.intro ⟨Nat.le_of_ble_eq_true rfl, Nat.le_of_ble_eq_true rfl, Nat.le_of_ble_eq_true rfl, Nat.le_of_ble_eq_true rfl⟩ k
set_option maxRecDepth 4000 in
theorem B_X11_init_23 {Q : oQ} {K : oK} (hK : oCl tb_X11_init Q K) {sh : oS} {I : Nat → Nat → Int} {L : Nat → Nat → Int64} {h0 : Nat} {s0 : Nat} {s1 : Nat} (ks0_0 : sK sh s0 = 11) (k : K 26 [some (vR h0)] [] ((sPutR sh s0 1 (some s1)), I, L) (5, 86)) : K 23 [some (vR h0)] [vR s1, vR s0] (sh, I, L) (5, 86) := by
  refine hK.1 23 [some (vR h0)] [vR s1, vR s0] (sh, I, L) (5, 86) ?_
  refine And.intro (mem1 ks0_0) ?_
  exact k
set_option maxRecDepth 4000 in
theorem B_X11_init_26 {Q : oQ} {K : oK} (hK : oCl tb_X11_init Q K) {sh : oS} {I : Nat → Nat → Int} {L : Nat → Nat → Int64} {h0 : Nat} (k : T_X4_init [vR (sN sh)] ((sNew sh 4 0), (iNew sh I), (lNew sh L)) (fun r mm => K 34 [some (vR h0)] (r.toList ++ [vR (sN sh), vR h0]) mm (8, 109))) : K 26 [some (vR h0)] [] (sh, I, L) (5, 86) := by
  refine hK.1 26 [some (vR h0)] [] (sh, I, L) (5, 86) ?_
  refine hK.1 27 [some (vR h0)] [vR h0] (sh, I, L) (5, 86) ?_
  refine And.intro ⟨by decide, by decide⟩ ?_
  refine hK.1 30 [some (vR h0)] [vR (sN sh), vR h0] ((sNew sh 4 0), (iNew sh I), (lNew sh L)) (6, 93) ?_
  refine hK.1 31 [some (vR h0)] [vR (sN sh), vR (sN sh), vR h0] ((sNew sh 4 0), (iNew sh I), (lNew sh L)) (6, 93) ?_
  exact And.intro ⟨Nat.le_of_ble_eq_true rfl, Nat.le_of_ble_eq_true rfl, Nat.le_of_ble_eq_true rfl, Nat.le_of_ble_eq_true rfl⟩ k
set_option maxRecDepth 4000 in
theorem B_X11_init_34 {Q : oQ} {K : oK} (hK : oCl tb_X11_init Q K) {sh : oS} {I : Nat → Nat → Int} {L : Nat → Nat → Int64} {h0 : Nat} {s0 : Nat} {s1 : Nat} (ks0_0 : sK sh s0 = 11) (k : K 37 [some (vR h0)] [] ((sPutR sh s0 2 (some s1)), I, L) (8, 109)) : K 34 [some (vR h0)] [vR s1, vR s0] (sh, I, L) (8, 109) := by
  refine hK.1 34 [some (vR h0)] [vR s1, vR s0] (sh, I, L) (8, 109) ?_
  refine And.intro (mem1 ks0_0) ?_
  exact k
set_option maxRecDepth 4000 in
theorem B_X11_init_37 {Q : oQ} {K : oK} (hK : oCl tb_X11_init Q K) {sh : oS} {I : Nat → Nat → Int} {L : Nat → Nat → Int64} {h0 : Nat} (kh0_0 : sK (sNew sh 16 4) h0 = 11) (k : K 45 [some (vR h0)] [] ((sPutR (sNew sh 16 4) h0 3 (some (sN sh))), (iNew sh I), (lNew sh L)) (9, 113)) : K 37 [some (vR h0)] [] (sh, I, L) (8, 109) := by
  refine hK.1 37 [some (vR h0)] [] (sh, I, L) (8, 109) ?_
  refine hK.1 38 [some (vR h0)] [vR h0] (sh, I, L) (8, 109) ?_
  refine hK.1 39 [some (vR h0)] [vI 4, vR h0] (sh, I, L) (8, 109) ?_
  refine And.intro ⟨by decide, by decide, by decide, by decide⟩ ?_
  refine hK.1 42 [some (vR h0)] [vR (sN sh), vR h0] ((sNew sh 16 4), (iNew sh I), (lNew sh L)) (9, 113) ?_
  refine And.intro (mem1 kh0_0) ?_
  exact k
set_option maxRecDepth 4000 in
theorem B_X11_init_45 {Q : oQ} {K : oK} (hK : oCl tb_X11_init Q K) {sh : oS} {I : Nat → Nat → Int} {L : Nat → Nat → Int64} {h0 : Nat} (kh0_0 : sK (sNew sh 17 8) h0 = 11) (k : K 54 [some (vR h0)] [] ((sPutR (sNew sh 17 8) h0 4 (some (sN sh))), (iNew sh I), (lNew sh L)) (10, 121)) : K 45 [some (vR h0)] [] (sh, I, L) (9, 113) := by
  refine hK.1 45 [some (vR h0)] [] (sh, I, L) (9, 113) ?_
  refine hK.1 46 [some (vR h0)] [vR h0] (sh, I, L) (9, 113) ?_
  refine hK.1 48 [some (vR h0)] [vI 8, vR h0] (sh, I, L) (9, 113) ?_
  refine And.intro ⟨by decide, by decide, by decide, by decide⟩ ?_
  refine hK.1 51 [some (vR h0)] [vR (sN sh), vR h0] ((sNew sh 17 8), (iNew sh I), (lNew sh L)) (10, 121) ?_
  refine And.intro (mem1 kh0_0) ?_
  exact k
set_option maxRecDepth 4000 in
theorem B_X11_init_54 {Q : oQ} {K : oK} (hK : oCl tb_X11_init Q K) {sh : oS} {I : Nat → Nat → Int} {L : Nat → Nat → Int64} {h0 : Nat} (k : T_X6_init [vR (sN sh)] ((sNew sh 6 0), (iNew sh I), (lNew sh L)) (fun r mm => K 62 [some (vR h0)] (r.toList ++ [vR (sN sh), vR h0]) mm (14, 148))) : K 54 [some (vR h0)] [] (sh, I, L) (10, 121) := by
  refine hK.1 54 [some (vR h0)] [] (sh, I, L) (10, 121) ?_
  refine hK.1 55 [some (vR h0)] [vR h0] (sh, I, L) (10, 121) ?_
  refine And.intro ⟨by decide, by decide⟩ ?_
  refine hK.1 58 [some (vR h0)] [vR (sN sh), vR h0] ((sNew sh 6 0), (iNew sh I), (lNew sh L)) (11, 126) ?_
  refine hK.1 59 [some (vR h0)] [vR (sN sh), vR (sN sh), vR h0] ((sNew sh 6 0), (iNew sh I), (lNew sh L)) (11, 126) ?_
  exact And.intro ⟨Nat.le_of_ble_eq_true rfl, Nat.le_of_ble_eq_true rfl, Nat.le_of_ble_eq_true rfl, Nat.le_of_ble_eq_true rfl⟩ k
set_option maxRecDepth 4000 in
theorem B_X11_init_62 {Q : oQ} {K : oK} (hK : oCl tb_X11_init Q K) {sh : oS} {I : Nat → Nat → Int} {L : Nat → Nat → Int64} {h0 : Nat} {s0 : Nat} {s1 : Nat} (ks0_0 : sK sh s0 = 11) (k : K 65 [some (vR h0)] [] ((sPutR sh s0 5 (some s1)), I, L) (14, 148)) : K 62 [some (vR h0)] [vR s1, vR s0] (sh, I, L) (14, 148) := by
  refine hK.1 62 [some (vR h0)] [vR s1, vR s0] (sh, I, L) (14, 148) ?_
  refine And.intro (mem1 ks0_0) ?_
  exact k
set_option maxRecDepth 4000 in
theorem B_X11_init_65 {Q : oQ} {K : oK} (hK : oCl tb_X11_init Q K) {sh : oS} {I : Nat → Nat → Int} {L : Nat → Nat → Int64} {h0 : Nat} (k : T_X6_init [vR (sN sh)] ((sNew sh 6 0), (iNew sh I), (lNew sh L)) (fun r mm => K 73 [some (vR h0)] (r.toList ++ [vR (sN sh), vR h0]) mm (18, 175))) : K 65 [some (vR h0)] [] (sh, I, L) (14, 148) := by
  refine hK.1 65 [some (vR h0)] [] (sh, I, L) (14, 148) ?_
  refine hK.1 66 [some (vR h0)] [vR h0] (sh, I, L) (14, 148) ?_
  refine And.intro ⟨by decide, by decide⟩ ?_
  refine hK.1 69 [some (vR h0)] [vR (sN sh), vR h0] ((sNew sh 6 0), (iNew sh I), (lNew sh L)) (15, 153) ?_
  refine hK.1 70 [some (vR h0)] [vR (sN sh), vR (sN sh), vR h0] ((sNew sh 6 0), (iNew sh I), (lNew sh L)) (15, 153) ?_
  exact And.intro ⟨Nat.le_of_ble_eq_true rfl, Nat.le_of_ble_eq_true rfl, Nat.le_of_ble_eq_true rfl, Nat.le_of_ble_eq_true rfl⟩ k
set_option maxRecDepth 4000 in
theorem B_X11_init_73 {Q : oQ} {K : oK} (hK : oCl tb_X11_init Q K) {sh : oS} {I : Nat → Nat → Int} {L : Nat → Nat → Int64} {h0 : Nat} {s0 : Nat} {s1 : Nat} (ks0_0 : sK sh s0 = 11) (k : K 76 [some (vR h0)] [] ((sPutR sh s0 6 (some s1)), I, L) (18, 175)) : K 73 [some (vR h0)] [vR s1, vR s0] (sh, I, L) (18, 175) := by
  refine hK.1 73 [some (vR h0)] [vR s1, vR s0] (sh, I, L) (18, 175) ?_
  refine And.intro (mem1 ks0_0) ?_
  exact k
set_option maxRecDepth 4000 in
theorem B_X11_init_76 {Q : oQ} {K : oK} (hK : oCl tb_X11_init Q K) {sh : oS} {I : Nat → Nat → Int} {L : Nat → Nat → Int64} {h0 : Nat} (k : T_X10_init [vR (sN sh)] ((sNew sh 10 0), (iNew sh I), (lNew sh L)) (fun r mm => K 84 [some (vR h0)] (r.toList ++ [vR (sN sh), vR h0]) mm (22, 199))) : K 76 [some (vR h0)] [] (sh, I, L) (18, 175) := by
  refine hK.1 76 [some (vR h0)] [] (sh, I, L) (18, 175) ?_
  refine hK.1 77 [some (vR h0)] [vR h0] (sh, I, L) (18, 175) ?_
  refine And.intro ⟨by decide, by decide⟩ ?_
  refine hK.1 80 [some (vR h0)] [vR (sN sh), vR h0] ((sNew sh 10 0), (iNew sh I), (lNew sh L)) (19, 181) ?_
  refine hK.1 81 [some (vR h0)] [vR (sN sh), vR (sN sh), vR h0] ((sNew sh 10 0), (iNew sh I), (lNew sh L)) (19, 181) ?_
  exact And.intro ⟨Nat.le_of_ble_eq_true rfl, Nat.le_of_ble_eq_true rfl, Nat.le_of_ble_eq_true rfl, Nat.le_of_ble_eq_true rfl⟩ k
set_option maxRecDepth 4000 in
theorem B_X11_init_84 {Q : oQ} {K : oK} (hK : oCl tb_X11_init Q K) {sh : oS} {I : Nat → Nat → Int} {L : Nat → Nat → Int64} {h0 : Nat} {s0 : Nat} {s1 : Nat} (ks0_0 : sK sh s0 = 11) (k : K 87 [some (vR h0)] [] ((sPutR sh s0 7 (some s1)), I, L) (22, 199)) : K 84 [some (vR h0)] [vR s1, vR s0] (sh, I, L) (22, 199) := by
  refine hK.1 84 [some (vR h0)] [vR s1, vR s0] (sh, I, L) (22, 199) ?_
  refine And.intro (mem1 ks0_0) ?_
  exact k
set_option maxRecDepth 4000 in
theorem B_X11_init_87 {Q : oQ} {K : oK} (hK : oCl tb_X11_init Q K) {sh : oS} {I : Nat → Nat → Int} {L : Nat → Nat → Int64} {h0 : Nat} (kh0_0 : sK (sNew sh 13 8) h0 = 11) (k : K 95 [some (vR h0)] [] ((sPutR (sNew sh 13 8) h0 12 (some (sN sh))), (iNew sh I), (lNew sh L)) (23, 207)) : K 87 [some (vR h0)] [] (sh, I, L) (22, 199) := by
  refine hK.1 87 [some (vR h0)] [] (sh, I, L) (22, 199) ?_
  refine hK.1 88 [some (vR h0)] [vR h0] (sh, I, L) (22, 199) ?_
  refine hK.1 90 [some (vR h0)] [vI 8, vR h0] (sh, I, L) (22, 199) ?_
  refine And.intro ⟨by decide, by decide, by decide, by decide⟩ ?_
  refine hK.1 92 [some (vR h0)] [vR (sN sh), vR h0] ((sNew sh 13 8), (iNew sh I), (lNew sh L)) (23, 207) ?_
  refine And.intro (mem1 kh0_0) ?_
  exact k
set_option maxRecDepth 4000 in
theorem B_X11_init_95 {Q : oQ} {K : oK} (hK : oCl tb_X11_init Q K) {sh : oS} {I : Nat → Nat → Int} {L : Nat → Nat → Int64} {h0 : Nat} (k : T_X2_init [vR (sN sh)] ((sNew sh 2 0), (iNew sh I), (lNew sh L)) (fun r mm => K 103 [some (vR h0)] (r.toList ++ [vR (sN sh), vR h0]) mm (40, 12295))) : K 95 [some (vR h0)] [] (sh, I, L) (23, 207) := by
  refine hK.1 95 [some (vR h0)] [] (sh, I, L) (23, 207) ?_
  refine hK.1 96 [some (vR h0)] [vR h0] (sh, I, L) (23, 207) ?_
  refine And.intro ⟨by decide, by decide⟩ ?_
  refine hK.1 99 [some (vR h0)] [vR (sN sh), vR h0] ((sNew sh 2 0), (iNew sh I), (lNew sh L)) (24, 213) ?_
  refine hK.1 100 [some (vR h0)] [vR (sN sh), vR (sN sh), vR h0] ((sNew sh 2 0), (iNew sh I), (lNew sh L)) (24, 213) ?_
  exact And.intro ⟨Nat.le_of_ble_eq_true rfl, Nat.le_of_ble_eq_true rfl, Nat.le_of_ble_eq_true rfl, Nat.le_of_ble_eq_true rfl⟩ k
set_option maxRecDepth 4000 in
theorem B_X11_init_103 {Q : oQ} {K : oK} (hK : oCl tb_X11_init Q K) {sh : oS} {I : Nat → Nat → Int} {L : Nat → Nat → Int64} {h0 : Nat} {s0 : Nat} {s1 : Nat} (ks0_0 : sK sh s0 = 11) (k : K 106 [some (vR h0)] [] ((sPutR sh s0 14 (some s1)), I, L) (40, 12295)) : K 103 [some (vR h0)] [vR s1, vR s0] (sh, I, L) (40, 12295) := by
  refine hK.1 103 [some (vR h0)] [vR s1, vR s0] (sh, I, L) (40, 12295) ?_
  refine And.intro (mem1 ks0_0) ?_
  exact k
set_option maxRecDepth 4000 in
theorem B_X11_init_106 {Q : oQ} {K : oK} (hK : oCl tb_X11_init Q K) {sh : oS} {I : Nat → Nat → Int} {L : Nat → Nat → Int64} {h0 : Nat} (kh0_0 : sK (sNew sh 13 128) h0 = 11) (k : K 115 [some (vR h0)] [] ((sPutR (sNew sh 13 128) h0 15 (some (sN sh))), (iNew sh I), (lNew sh L)) (41, 12423)) : K 106 [some (vR h0)] [] (sh, I, L) (40, 12295) := by
  refine hK.1 106 [some (vR h0)] [] (sh, I, L) (40, 12295) ?_
  refine hK.1 107 [some (vR h0)] [vR h0] (sh, I, L) (40, 12295) ?_
  refine hK.1 110 [some (vR h0)] [vI 128, vR h0] (sh, I, L) (40, 12295) ?_
  refine And.intro ⟨by decide, by decide, by decide, by decide⟩ ?_
  refine hK.1 112 [some (vR h0)] [vR (sN sh), vR h0] ((sNew sh 13 128), (iNew sh I), (lNew sh L)) (41, 12423) ?_
  refine And.intro (mem1 kh0_0) ?_
  exact k
set_option maxRecDepth 4000 in
theorem B_X11_init_115 {Q : oQ} {K : oK} (hK : oCl tb_X11_init Q K) {sh : oS} {I : Nat → Nat → Int} {L : Nat → Nat → Int64} {h0 : Nat} (kh0_0 : sK (sNew sh 13 128) h0 = 11) (k : K 124 [some (vR h0)] [] ((sPutR (sNew sh 13 128) h0 16 (some (sN sh))), (iNew sh I), (lNew sh L)) (42, 12551)) : K 115 [some (vR h0)] [] (sh, I, L) (41, 12423) := by
  refine hK.1 115 [some (vR h0)] [] (sh, I, L) (41, 12423) ?_
  refine hK.1 116 [some (vR h0)] [vR h0] (sh, I, L) (41, 12423) ?_
  refine hK.1 119 [some (vR h0)] [vI 128, vR h0] (sh, I, L) (41, 12423) ?_
  refine And.intro ⟨by decide, by decide, by decide, by decide⟩ ?_
  refine hK.1 121 [some (vR h0)] [vR (sN sh), vR h0] ((sNew sh 13 128), (iNew sh I), (lNew sh L)) (42, 12551) ?_
  refine And.intro (mem1 kh0_0) ?_
  exact k
set_option maxRecDepth 4000 in
theorem B_X11_init_124 {Q : oQ} {K : oK} (hK : oCl tb_X11_init Q K) {sh : oS} {I : Nat → Nat → Int} {L : Nat → Nat → Int64} {h0 : Nat} (kh0_0 : sK (sNew sh 13 32) h0 = 11) (k : K 132 [some (vR h0)] [] ((sPutR (sNew sh 13 32) h0 17 (some (sN sh))), (iNew sh I), (lNew sh L)) (43, 12583)) : K 124 [some (vR h0)] [] (sh, I, L) (42, 12551) := by
  refine hK.1 124 [some (vR h0)] [] (sh, I, L) (42, 12551) ?_
  refine hK.1 125 [some (vR h0)] [vR h0] (sh, I, L) (42, 12551) ?_
  refine hK.1 127 [some (vR h0)] [vI 32, vR h0] (sh, I, L) (42, 12551) ?_
  refine And.intro ⟨by decide, by decide, by decide, by decide⟩ ?_
  refine hK.1 129 [some (vR h0)] [vR (sN sh), vR h0] ((sNew sh 13 32), (iNew sh I), (lNew sh L)) (43, 12583) ?_
  refine And.intro (mem1 kh0_0) ?_
  exact k
set_option maxRecDepth 4000 in
theorem B_X11_init_132 {Q : oQ} {K : oK} (hK : oCl tb_X11_init Q K) {sh : oS} {I : Nat → Nat → Int} {L : Nat → Nat → Int64} {h0 : Nat} (k : T_X11_forget [vR h0] (sh, I, L) (fun r mm => K 136 [none] (r.toList ++ []) mm (43, 12583))) (kh0_0 : sK sh h0 = 11) : K 132 [some (vR h0)] [] (sh, I, L) (43, 12583) := by
  refine hK.1 132 [some (vR h0)] [] (sh, I, L) (43, 12583) ?_
  refine hK.2 [false] _ _ _ _ _ ?_
  refine hK.1 133 [none] [vR h0] (sh, I, L) (43, 12583) ?_
  exact And.intro ⟨kh0_0, Nat.le_of_ble_eq_true rfl, Nat.le_of_ble_eq_true rfl, Nat.le_of_ble_eq_true rfl, Nat.le_of_ble_eq_true rfl⟩ k
set_option maxRecDepth 4000 in
theorem B_X11_init_136 {Q : oQ} {K : oK} (hK : oCl tb_X11_init Q K) {sh : oS} {I : Nat → Nat → Int} {L : Nat → Nat → Int64}  (k : Q none (sh, I, L)) : K 136 [none] [] (sh, I, L) (43, 12583) := by
  refine hK.1 136 [none] [] (sh, I, L) (43, 12583) ?_
  exact And.intro rfl (And.intro ⟨by decide, by decide⟩ k)
set_option maxRecDepth 4000 in
theorem B_X11_lack_0 {Q : oQ} {K : oK} (hK : oCl tb_X11_lack Q K) {sh : oS} (hs : Sh sh) {I : Nat → Nat → Int} {L : Nat → Nat → Int64} {x1 : Int} {x2 : Int} {x3 : Int} (k : T_X11_wayRefusal [vR 0, vI x1, vI x2, vI x3] (sh, I, L) (fun r mm => K 7 [some (vR 0), some (vI x1), some (vI x2), some (vI x3), none] (r.toList ++ []) mm (0, 0))) : K 0 [some (vR 0), some (vI x1), some (vI x2), some (vI x3), none] [] (sh, I, L) (0, 0) := by
  refine hK.1 0 [some (vR 0), some (vI x1), some (vI x2), some (vI x3), none] [] (sh, I, L) (0, 0) ?_
  refine hK.1 1 [some (vR 0), some (vI x1), some (vI x2), some (vI x3), none] [vR 0] (sh, I, L) (0, 0) ?_
  refine hK.1 2 [some (vR 0), some (vI x1), some (vI x2), some (vI x3), none] [vI x1, vR 0] (sh, I, L) (0, 0) ?_
  refine hK.1 3 [some (vR 0), some (vI x1), some (vI x2), some (vI x3), none] [vI x2, vI x1, vR 0] (sh, I, L) (0, 0) ?_
  refine hK.1 4 [some (vR 0), some (vI x1), some (vI x2), some (vI x3), none] [vI x3, vI x2, vI x1, vR 0] (sh, I, L) (0, 0) ?_
  exact And.intro ⟨(sk_0 hs), Nat.le_of_ble_eq_true rfl, Nat.le_of_ble_eq_true rfl, Nat.le_of_ble_eq_true rfl, Nat.le_of_ble_eq_true rfl⟩ k
set_option maxRecDepth 4000 in
theorem B_X11_lack_7 {Q : oQ} {K : oK} (hK : oCl tb_X11_lack Q K) {sh : oS} {I : Nat → Nat → Int} {L : Nat → Nat → Int64} {x1 : Int} {x2 : Int} {x3 : Int} {s0 : Int} (n11 : inR s0) (kt : s0 = 0 → K 17 [some (vR 0), some (vI x1), some (vI x2), some (vI x3), none] [] (sh, I, L) (0, 0)) (kf : ¬ (s0 = 0) → K 14 [none, none, none, none, some (vI s0)] [] (sh, I, L) (0, 0)) : K 7 [some (vR 0), some (vI x1), some (vI x2), some (vI x3), none] [vI s0] (sh, I, L) (0, 0) := by
  refine hK.1 7 [some (vR 0), some (vI x1), some (vI x2), some (vI x3), none] [vI s0] (sh, I, L) (0, 0) ?_
  refine hK.1 9 [some (vR 0), some (vI x1), some (vI x2), some (vI x3), some (vI s0)] [] (sh, I, L) (0, 0) ?_
  refine hK.1 11 [some (vR 0), some (vI x1), some (vI x2), some (vI x3), some (vI s0)] [vI s0] (sh, I, L) (0, 0) ?_
  exact And.intro (n11) (And.intro (fun h => hK.2 [true, true, true, true, false] _ _ _ _ _ (kt h)) (fun h => hK.2 [false, false, false, false, true] _ _ _ _ _ (kf h)))
set_option maxRecDepth 4000 in
theorem B_X11_lack_14 {Q : oQ} {K : oK} (hK : oCl tb_X11_lack Q K) {sh : oS} {I : Nat → Nat → Int} {L : Nat → Nat → Int64} {x4 : Int} (k : Q (some (vI x4)) (sh, I, L)) : K 14 [none, none, none, none, some (vI x4)] [] (sh, I, L) (0, 0) := by
  refine hK.1 14 [none, none, none, none, some (vI x4)] [] (sh, I, L) (0, 0) ?_
  refine hK.1 16 [none, none, none, none, some (vI x4)] [vI x4] (sh, I, L) (0, 0) ?_
  exact And.intro ⟨by decide, by decide⟩ k
set_option maxRecDepth 4000 in
theorem B_X11_lack_17 {Q : oQ} {K : oK} (hK : oCl tb_X11_lack Q K) {sh : oS} (hs : Sh sh) {I : Nat → Nat → Int} {L : Nat → Nat → Int64} {x1 : Int} {x2 : Int} {x3 : Int} (k : T_X11_pitch [vR 0, vI x1, vI x2] (sh, I, L) (fun r mm => K 23 [some (vR 0), none, some (vI x2), some (vI x3), none] (r.toList ++ []) mm (0, 0))) : K 17 [some (vR 0), some (vI x1), some (vI x2), some (vI x3), none] [] (sh, I, L) (0, 0) := by
  refine hK.1 17 [some (vR 0), some (vI x1), some (vI x2), some (vI x3), none] [] (sh, I, L) (0, 0) ?_
  refine hK.1 18 [some (vR 0), some (vI x1), some (vI x2), some (vI x3), none] [vR 0] (sh, I, L) (0, 0) ?_
  refine hK.1 19 [some (vR 0), some (vI x1), some (vI x2), some (vI x3), none] [vI x1, vR 0] (sh, I, L) (0, 0) ?_
  refine hK.2 [true, false, true, true, false] _ _ _ _ _ ?_
  refine hK.1 20 [some (vR 0), none, some (vI x2), some (vI x3), none] [vI x2, vI x1, vR 0] (sh, I, L) (0, 0) ?_
  exact And.intro ⟨(sk_0 hs), Nat.le_of_ble_eq_true rfl, Nat.le_of_ble_eq_true rfl, Nat.le_of_ble_eq_true rfl, Nat.le_of_ble_eq_true rfl⟩ k
set_option maxRecDepth 4000 in
theorem B_X11_lack_23 {Q : oQ} {K : oK} (hK : oCl tb_X11_lack Q K) {sh : oS} (hs : Sh sh) {I : Nat → Nat → Int} {L : Nat → Nat → Int64} {x2 : Int} {x3 : Int} {q36 : Nat} (b36 : 0 ≤ x2 ∧ x2 < 4) (r36 : sR sh 9 (x2.toNat) = some q36) (k : T_X2_firstLack [vR 24, vR 3, vR q36, vI x3, vI (I 3 6)] (sh, I, L) (fun r mm => K 48 [none, none, none, none, none] (r.toList ++ []) mm (0, 0))) : K 23 [some (vR 0), none, some (vI x2), some (vI x3), none] [] (sh, I, L) (0, 0) := by
  refine hK.1 23 [some (vR 0), none, some (vI x2), some (vI x3), none] [] (sh, I, L) (0, 0) ?_
  refine hK.1 24 [some (vR 0), none, some (vI x2), some (vI x3), none] [vR 0] (sh, I, L) (0, 0) ?_
  refine And.intro (mem1 (sk_0 hs)) (Exists.intro 24 (And.intro (sr_0_14 hs) ?_))
  refine hK.1 27 [some (vR 0), none, some (vI x2), some (vI x3), none] [vR 24] (sh, I, L) (0, 0) ?_
  refine hK.1 28 [some (vR 0), none, some (vI x2), some (vI x3), none] [vR 0, vR 24] (sh, I, L) (0, 0) ?_
  refine And.intro (mem1 (sk_0 hs)) (Exists.intro 3 (And.intro (sr_0_1 hs) ?_))
  refine hK.1 31 [some (vR 0), none, some (vI x2), some (vI x3), none] [vR 3, vR 24] (sh, I, L) (0, 0) ?_
  refine hK.1 32 [some (vR 0), none, some (vI x2), some (vI x3), none] [vR 0, vR 3, vR 24] (sh, I, L) (0, 0) ?_
  refine And.intro (mem1 (sk_0 hs)) (Exists.intro 9 (And.intro (sr_0_3 hs) ?_))
  refine hK.1 35 [some (vR 0), none, some (vI x2), some (vI x3), none] [vR 9, vR 3, vR 24] (sh, I, L) (0, 0) ?_
  refine hK.1 36 [some (vR 0), none, some (vI x2), some (vI x3), none] [vI x2, vR 9, vR 3, vR 24] (sh, I, L) (0, 0) ?_
  refine And.intro (And.intro (sk_9 hs) (ixL (sl_9 hs) b36)) (Exists.intro q36 (And.intro r36 ?_))
  refine hK.1 37 [some (vR 0), none, some (vI x2), some (vI x3), none] [vR q36, vR 3, vR 24] (sh, I, L) (0, 0) ?_
  refine hK.1 38 [some (vR 0), none, some (vI x2), some (vI x3), none] [vI x3, vR q36, vR 3, vR 24] (sh, I, L) (0, 0) ?_
  refine hK.1 39 [some (vR 0), none, some (vI x2), some (vI x3), none] [vR 0, vI x3, vR q36, vR 3, vR 24] (sh, I, L) (0, 0) ?_
  refine And.intro (mem1 (sk_0 hs)) (Exists.intro 3 (And.intro (sr_0_1 hs) ?_))
  refine hK.1 42 [some (vR 0), none, some (vI x2), some (vI x3), none] [vR 3, vI x3, vR q36, vR 3, vR 24] (sh, I, L) (0, 0) ?_
  refine And.intro (mem1 (sk_3 hs)) ?_
  refine hK.2 [false, false, false, false, false] _ _ _ _ _ ?_
  refine hK.1 45 [none, none, none, none, none] [vI (I 3 6), vI x3, vR q36, vR 3, vR 24] (sh, I, L) (0, 0) ?_
  exact And.intro ⟨(sk_24 hs), Nat.le_of_ble_eq_true rfl, Nat.le_of_ble_eq_true rfl, Nat.le_of_ble_eq_true rfl, Nat.le_of_ble_eq_true rfl⟩ k
set_option maxRecDepth 4000 in
theorem B_X11_lack_48 {Q : oQ} {K : oK} (hK : oCl tb_X11_lack Q K) {sh : oS} {I : Nat → Nat → Int} {L : Nat → Nat → Int64} {s0 : Int} (k : Q (some (vI s0)) (sh, I, L)) : K 48 [none, none, none, none, none] [vI s0] (sh, I, L) (0, 0) := by
  refine hK.1 48 [none, none, none, none, none] [vI s0] (sh, I, L) (0, 0) ?_
  exact And.intro ⟨by decide, by decide⟩ k
set_option maxRecDepth 4000 in
theorem B_X11_land_0 {Q : oQ} {K : oK} (hK : oCl tb_X11_land Q K) {sh : oS} (hs : Sh sh) {I : Nat → Nat → Int} {L : Nat → Nat → Int64}  (k : T_X4_read [vR 6, vR 1] (sh, I, L) (fun r mm => K 11 [some (vR 0)] (r.toList ++ []) mm (0, 0))) : K 0 [some (vR 0)] [] (sh, I, L) (0, 0) := by
  refine hK.1 0 [some (vR 0)] [] (sh, I, L) (0, 0) ?_
  refine hK.1 1 [some (vR 0)] [vR 0] (sh, I, L) (0, 0) ?_
  refine And.intro (mem1 (sk_0 hs)) (Exists.intro 6 (And.intro (sr_0_2 hs) ?_))
  refine hK.1 4 [some (vR 0)] [vR 6] (sh, I, L) (0, 0) ?_
  refine hK.1 5 [some (vR 0)] [vR 0, vR 6] (sh, I, L) (0, 0) ?_
  refine And.intro (mem1 (sk_0 hs)) (Exists.intro 1 (And.intro (sr_0_0 hs) ?_))
  refine hK.1 8 [some (vR 0)] [vR 1, vR 6] (sh, I, L) (0, 0) ?_
  exact And.intro ⟨(sk_6 hs), Nat.le_of_ble_eq_true rfl, Nat.le_of_ble_eq_true rfl, Nat.le_of_ble_eq_true rfl, Nat.le_of_ble_eq_true rfl⟩ k
set_option maxRecDepth 4000 in
theorem B_X11_land_11 {Q : oQ} {K : oK} (hK : oCl tb_X11_land Q K) {sh : oS} {I : Nat → Nat → Int} {L : Nat → Nat → Int64} {s0 : Int} (n11 : inR s0) (kt : ¬ s0 = 0 → K 17 [some (vR 0)] [] (sh, I, L) (0, 0)) (kf : ¬ (¬ s0 = 0) → K 14 [none] [] (sh, I, L) (0, 0)) : K 11 [some (vR 0)] [vI s0] (sh, I, L) (0, 0) := by
  refine hK.1 11 [some (vR 0)] [vI s0] (sh, I, L) (0, 0) ?_
  exact And.intro (n11) (And.intro (fun h => hK.2 [true] _ _ _ _ _ (kt h)) (fun h => hK.2 [false] _ _ _ _ _ (kf h)))
set_option maxRecDepth 4000 in
theorem B_X11_land_14 {Q : oQ} {K : oK} (hK : oCl tb_X11_land Q K) {sh : oS} {I : Nat → Nat → Int} {L : Nat → Nat → Int64}  (k : Q (some (vI (-103))) (sh, I, L)) : K 14 [none] [] (sh, I, L) (0, 0) := by
  refine hK.1 14 [none] [] (sh, I, L) (0, 0) ?_
  refine hK.1 16 [none] [vI (-103)] (sh, I, L) (0, 0) ?_
  exact And.intro ⟨by decide, by decide⟩ k
set_option maxRecDepth 4000 in
theorem B_X11_land_17 {Q : oQ} {K : oK} (hK : oCl tb_X11_land Q K) {sh : oS} (hs : Sh sh) {I : Nat → Nat → Int} {L : Nat → Nat → Int64}  (k : T_X4_become [vR 3, vR 6] (sh, I, L) (fun r mm => K 28 [some (vR 0)] (r.toList ++ []) mm (0, 0))) : K 17 [some (vR 0)] [] (sh, I, L) (0, 0) := by
  refine hK.1 17 [some (vR 0)] [] (sh, I, L) (0, 0) ?_
  refine hK.1 18 [some (vR 0)] [vR 0] (sh, I, L) (0, 0) ?_
  refine And.intro (mem1 (sk_0 hs)) (Exists.intro 3 (And.intro (sr_0_1 hs) ?_))
  refine hK.1 21 [some (vR 0)] [vR 3] (sh, I, L) (0, 0) ?_
  refine hK.1 22 [some (vR 0)] [vR 0, vR 3] (sh, I, L) (0, 0) ?_
  refine And.intro (mem1 (sk_0 hs)) (Exists.intro 6 (And.intro (sr_0_2 hs) ?_))
  refine hK.1 25 [some (vR 0)] [vR 6, vR 3] (sh, I, L) (0, 0) ?_
  exact And.intro ⟨(sk_3 hs), Nat.le_of_ble_eq_true rfl, Nat.le_of_ble_eq_true rfl, Nat.le_of_ble_eq_true rfl, Nat.le_of_ble_eq_true rfl⟩ k
set_option maxRecDepth 4000 in
theorem B_X11_land_28 {Q : oQ} {K : oK} (hK : oCl tb_X11_land Q K) {sh : oS} (hs : Sh sh) {I : Nat → Nat → Int} {L : Nat → Nat → Int64}  (k : T_X11_forget [vR 0] (sh, (u2 (u2 I 0 10 ((I 0 10) + 1)) 1 1 0), L) (fun r mm => K 50 [some (vR 0)] (r.toList ++ []) mm (0, 0))) : K 28 [some (vR 0)] [] (sh, I, L) (0, 0) := by
  refine hK.1 28 [some (vR 0)] [] (sh, I, L) (0, 0) ?_
  refine hK.1 29 [some (vR 0)] [vR 0] (sh, I, L) (0, 0) ?_
  refine hK.1 30 [some (vR 0)] [vR 0, vR 0] (sh, I, L) (0, 0) ?_
  refine And.intro (mem1 (sk_0 hs)) ?_
  refine hK.1 33 [some (vR 0)] [vI (I 0 10), vR 0] (sh, I, L) (0, 0) ?_
  refine hK.1 34 [some (vR 0)] [vI 1, vI (I 0 10), vR 0] (sh, I, L) (0, 0) ?_
  refine hK.1 35 [some (vR 0)] [vI ((I 0 10) + 1), vR 0] (sh, I, L) (0, 0) ?_
  refine And.intro (mem1 (sk_0 hs)) ?_
  refine hK.1 38 [some (vR 0)] [] (sh, (u2 I 0 10 ((I 0 10) + 1)), L) (0, 0) ?_
  refine hK.1 39 [some (vR 0)] [vR 0] (sh, (u2 I 0 10 ((I 0 10) + 1)), L) (0, 0) ?_
  refine And.intro (mem1 (sk_0 hs)) (Exists.intro 1 (And.intro (sr_0_0 hs) ?_))
  refine hK.1 42 [some (vR 0)] [vR 1] (sh, (u2 I 0 10 ((I 0 10) + 1)), L) (0, 0) ?_
  refine hK.1 43 [some (vR 0)] [vI 0, vR 1] (sh, (u2 I 0 10 ((I 0 10) + 1)), L) (0, 0) ?_
  refine And.intro (mem1 (sk_1 hs)) ?_
  refine hK.1 46 [some (vR 0)] [] (sh, (u2 (u2 I 0 10 ((I 0 10) + 1)) 1 1 0), L) (0, 0) ?_
  refine hK.1 47 [some (vR 0)] [vR 0] (sh, (u2 (u2 I 0 10 ((I 0 10) + 1)) 1 1 0), L) (0, 0) ?_
  exact And.intro ⟨(sk_0 hs), Nat.le_of_ble_eq_true rfl, Nat.le_of_ble_eq_true rfl, Nat.le_of_ble_eq_true rfl, Nat.le_of_ble_eq_true rfl⟩ k
set_option maxRecDepth 4000 in
theorem B_X11_land_50 {Q : oQ} {K : oK} (hK : oCl tb_X11_land Q K) {sh : oS} (hs : Sh sh) {I : Nat → Nat → Int} {L : Nat → Nat → Int64}  (k : Q (some (vI (I 3 0))) (sh, I, L)) : K 50 [some (vR 0)] [] (sh, I, L) (0, 0) := by
  refine hK.1 50 [some (vR 0)] [] (sh, I, L) (0, 0) ?_
  refine hK.1 51 [some (vR 0)] [vR 0] (sh, I, L) (0, 0) ?_
  refine And.intro (mem1 (sk_0 hs)) (Exists.intro 3 (And.intro (sr_0_1 hs) ?_))
  refine hK.1 54 [some (vR 0)] [vR 3] (sh, I, L) (0, 0) ?_
  refine And.intro (mem1 (sk_3 hs)) ?_
  refine hK.1 57 [some (vR 0)] [vI (I 3 0)] (sh, I, L) (0, 0) ?_
  exact And.intro ⟨by decide, by decide⟩ k
set_option maxRecDepth 4000 in
theorem B_X11_leastNumber_0 {Q : oQ} {K : oK} (hK : oCl tb_X11_leastNumber Q K) {sh : oS} {I : Nat → Nat → Int} {L : Nat → Nat → Int64} {x0 : Int} (n2a : inR x0) (kt : x0 = 1 → K 10 [none] [] (sh, I, L) (0, 0)) (kf : ¬ (x0 = 1) → K 5 [some (vI x0)] [] (sh, I, L) (0, 0)) : K 0 [some (vI x0)] [] (sh, I, L) (0, 0) := by
  refine hK.1 0 [some (vI x0)] [] (sh, I, L) (0, 0) ?_
  refine hK.1 1 [some (vI x0)] [vI x0] (sh, I, L) (0, 0) ?_
  refine hK.1 2 [some (vI x0)] [vI 1, vI x0] (sh, I, L) (0, 0) ?_
  exact And.intro (And.intro n2a ⟨by decide, by decide⟩) (And.intro (fun h => hK.2 [false] _ _ _ _ _ (kt h)) (fun h => hK.2 [true] _ _ _ _ _ (kf h)))
set_option maxRecDepth 4000 in
theorem B_X11_leastNumber_5 {Q : oQ} {K : oK} (hK : oCl tb_X11_leastNumber Q K) {sh : oS} {I : Nat → Nat → Int} {L : Nat → Nat → Int64} {x0 : Int} (n7a : inR x0) (kt : ¬ x0 = 2 → K 14 [none] [] (sh, I, L) (0, 0)) (kf : ¬ (¬ x0 = 2) → K 10 [none] [] (sh, I, L) (0, 0)) : K 5 [some (vI x0)] [] (sh, I, L) (0, 0) := by
  refine hK.1 5 [some (vI x0)] [] (sh, I, L) (0, 0) ?_
  refine hK.1 6 [some (vI x0)] [vI x0] (sh, I, L) (0, 0) ?_
  refine hK.1 7 [some (vI x0)] [vI 2, vI x0] (sh, I, L) (0, 0) ?_
  exact And.intro (And.intro n7a ⟨by decide, by decide⟩) (And.intro (fun h => hK.2 [false] _ _ _ _ _ (kt h)) (fun h => hK.2 [false] _ _ _ _ _ (kf h)))
set_option maxRecDepth 4000 in
theorem B_X11_leastNumber_10 {Q : oQ} {K : oK} (hK : oCl tb_X11_leastNumber Q K) {sh : oS} {I : Nat → Nat → Int} {L : Nat → Nat → Int64}  (k : K 15 [none] [vI 1] (sh, I, L) (0, 0)) : K 10 [none] [] (sh, I, L) (0, 0) := by
  refine hK.1 10 [none] [] (sh, I, L) (0, 0) ?_
  refine hK.1 11 [none] [vI 1] (sh, I, L) (0, 0) ?_
  exact k
set_option maxRecDepth 4000 in
theorem B_X11_leastNumber_14 {Q : oQ} {K : oK} (hK : oCl tb_X11_leastNumber Q K) {sh : oS} {I : Nat → Nat → Int} {L : Nat → Nat → Int64}  (k : K 15 [none] [vI 0] (sh, I, L) (0, 0)) : K 14 [none] [] (sh, I, L) (0, 0) := by
  refine hK.1 14 [none] [] (sh, I, L) (0, 0) ?_
  exact k
set_option maxRecDepth 4000 in
theorem B_X11_leastNumber_15 {Q : oQ} {K : oK} (hK : oCl tb_X11_leastNumber Q K) {sh : oS} {I : Nat → Nat → Int} {L : Nat → Nat → Int64} {s0 : Int} (k : Q (some (vI s0)) (sh, I, L)) : K 15 [none] [vI s0] (sh, I, L) (0, 0) := by
  refine hK.1 15 [none] [vI s0] (sh, I, L) (0, 0) ?_
  exact And.intro ⟨by decide, by decide⟩ k
set_option maxRecDepth 4000 in
theorem B_X11_lettersIn_0 {Q : oQ} {K : oK} (hK : oCl tb_X11_lettersIn Q K) {sh : oS} {I : Nat → Nat → Int} {L : Nat → Nat → Int64} {w0 : Int64} (k : K 4 [some (vL w0), none, some (vI 0), some (vI 0), none] [] (sh, I, L) (0, 0)) : K 0 [some (vL w0), none, none, none, none] [] (sh, I, L) (0, 0) := by
  refine hK.1 0 [some (vL w0), none, none, none, none] [] (sh, I, L) (0, 0) ?_
  refine hK.1 1 [some (vL w0), none, none, none, none] [vI 0] (sh, I, L) (0, 0) ?_
  refine hK.1 2 [some (vL w0), none, some (vI 0), none, none] [] (sh, I, L) (0, 0) ?_
  refine hK.1 3 [some (vL w0), none, some (vI 0), none, none] [vI 0] (sh, I, L) (0, 0) ?_
  exact k
set_option maxRecDepth 4000 in
theorem B_X11_lettersIn_4 {Q : oQ} {K : oK} (hK : oCl tb_X11_lettersIn Q K) {sh : oS} {I : Nat → Nat → Int} {L : Nat → Nat → Int64} {w0 : Int64} {x2 : Int} {x3 : Int} (n7a : inR x3) (kt : 8 ≤ x3 → K 56 [none, none, some (vI x2), none, none] [] (sh, I, L) (0, 0)) (kf : ¬ (8 ≤ x3) → K 10 [some (vL w0), none, some (vI x2), some (vI x3), none] [] (sh, I, L) (0, 0)) : K 4 [some (vL w0), none, some (vI x2), some (vI x3), none] [] (sh, I, L) (0, 0) := by
  refine hK.1 4 [some (vL w0), none, some (vI x2), some (vI x3), none] [] (sh, I, L) (0, 0) ?_
  refine hK.1 5 [some (vL w0), none, some (vI x2), some (vI x3), none] [vI x3] (sh, I, L) (0, 0) ?_
  refine hK.1 7 [some (vL w0), none, some (vI x2), some (vI x3), none] [vI 8, vI x3] (sh, I, L) (0, 0) ?_
  exact And.intro (And.intro n7a ⟨by decide, by decide⟩) (And.intro (fun h => hK.2 [false, false, true, false, false] _ _ _ _ _ (kt h)) (fun h => hK.2 [true, false, true, true, false] _ _ _ _ _ (kf h)))
set_option maxRecDepth 4000 in
theorem B_X11_lettersIn_10 {Q : oQ} {K : oK} (hK : oCl tb_X11_lettersIn Q K) {sh : oS} {I : Nat → Nat → Int} {L : Nat → Nat → Int64} {w0 : Int64} {x2 : Int} {x3 : Int} (n27a : inR (fAnd ((Int64.toInt32 (gUshr w0 (Int32.ofInt (8 * x3)))).toInt) 255)) (kt : 126 < fAnd ((Int64.toInt32 (gUshr w0 (Int32.ofInt (8 * x3)))).toInt) 255 → K 40 [none, none, none, none, none] [] (sh, I, L) (0, 0)) (kf : ¬ (126 < fAnd ((Int64.toInt32 (gUshr w0 (Int32.ofInt (8 * x3)))).toInt) 255) → K 30 [some (vL w0), none, some (vI x2), some (vI x3), some (vI (fAnd ((Int64.toInt32 (gUshr w0 (Int32.ofInt (8 * x3)))).toInt) 255))] [] (sh, I, L) (0, 0)) : K 10 [some (vL w0), none, some (vI x2), some (vI x3), none] [] (sh, I, L) (0, 0) := by
  refine hK.1 10 [some (vL w0), none, some (vI x2), some (vI x3), none] [] (sh, I, L) (0, 0) ?_
  refine hK.1 11 [some (vL w0), none, some (vI x2), some (vI x3), none] [vL w0] (sh, I, L) (0, 0) ?_
  refine hK.1 13 [some (vL w0), none, some (vI x2), some (vI x3), none] [vI 8, vL w0] (sh, I, L) (0, 0) ?_
  refine hK.1 14 [some (vL w0), none, some (vI x2), some (vI x3), none] [vI x3, vI 8, vL w0] (sh, I, L) (0, 0) ?_
  refine hK.1 15 [some (vL w0), none, some (vI x2), some (vI x3), none] [vI (8 * x3), vL w0] (sh, I, L) (0, 0) ?_
  refine hK.1 16 [some (vL w0), none, some (vI x2), some (vI x3), none] [vL (gUshr w0 (Int32.ofInt (8 * x3)))] (sh, I, L) (0, 0) ?_
  refine hK.1 17 [some (vL w0), none, some (vI x2), some (vI x3), none] [vI ((Int64.toInt32 (gUshr w0 (Int32.ofInt (8 * x3)))).toInt)] (sh, I, L) (0, 0) ?_
  refine hK.1 20 [some (vL w0), none, some (vI x2), some (vI x3), none] [vI 255, vI ((Int64.toInt32 (gUshr w0 (Int32.ofInt (8 * x3)))).toInt)] (sh, I, L) (0, 0) ?_
  refine hK.1 21 [some (vL w0), none, some (vI x2), some (vI x3), none] [vI (fAnd ((Int64.toInt32 (gUshr w0 (Int32.ofInt (8 * x3)))).toInt) 255)] (sh, I, L) (0, 0) ?_
  refine hK.1 23 [some (vL w0), none, some (vI x2), some (vI x3), some (vI (fAnd ((Int64.toInt32 (gUshr w0 (Int32.ofInt (8 * x3)))).toInt) 255))] [] (sh, I, L) (0, 0) ?_
  refine hK.1 25 [some (vL w0), none, some (vI x2), some (vI x3), some (vI (fAnd ((Int64.toInt32 (gUshr w0 (Int32.ofInt (8 * x3)))).toInt) 255))] [vI (fAnd ((Int64.toInt32 (gUshr w0 (Int32.ofInt (8 * x3)))).toInt) 255)] (sh, I, L) (0, 0) ?_
  refine hK.1 27 [some (vL w0), none, some (vI x2), some (vI x3), some (vI (fAnd ((Int64.toInt32 (gUshr w0 (Int32.ofInt (8 * x3)))).toInt) 255))] [vI 126, vI (fAnd ((Int64.toInt32 (gUshr w0 (Int32.ofInt (8 * x3)))).toInt) 255)] (sh, I, L) (0, 0) ?_
  exact And.intro (And.intro n27a ⟨by decide, by decide⟩) (And.intro (fun h => hK.2 [false, false, false, false, false] _ _ _ _ _ (kt h)) (fun h => hK.2 [true, false, true, true, true] _ _ _ _ _ (kf h)))
set_option maxRecDepth 4000 in
theorem B_X11_lettersIn_30 {Q : oQ} {K : oK} (hK : oCl tb_X11_lettersIn Q K) {sh : oS} {I : Nat → Nat → Int} {L : Nat → Nat → Int64} {w0 : Int64} {x2 : Int} {x3 : Int} {x4 : Int} (n32 : inR x4) (kt : x4 = 0 → K 42 [some (vL w0), none, some (vI x2), some (vI x3), some (vI x4)] [] (sh, I, L) (0, 0)) (kf : ¬ (x4 = 0) → K 35 [some (vL w0), none, some (vI x2), some (vI x3), some (vI x4)] [] (sh, I, L) (0, 0)) : K 30 [some (vL w0), none, some (vI x2), some (vI x3), some (vI x4)] [] (sh, I, L) (0, 0) := by
  refine hK.1 30 [some (vL w0), none, some (vI x2), some (vI x3), some (vI x4)] [] (sh, I, L) (0, 0) ?_
  refine hK.1 32 [some (vL w0), none, some (vI x2), some (vI x3), some (vI x4)] [vI x4] (sh, I, L) (0, 0) ?_
  exact And.intro (n32) (And.intro (fun h => hK.2 [true, false, true, true, true] _ _ _ _ _ (kt h)) (fun h => hK.2 [true, false, true, true, true] _ _ _ _ _ (kf h)))
set_option maxRecDepth 4000 in
theorem B_X11_lettersIn_35 {Q : oQ} {K : oK} (hK : oCl tb_X11_lettersIn Q K) {sh : oS} {I : Nat → Nat → Int} {L : Nat → Nat → Int64} {w0 : Int64} {x2 : Int} {x3 : Int} {x4 : Int} (n37a : inR x2) (n37b : inR x3) (kt : x3 ≤ x2 → K 42 [some (vL w0), none, some (vI x2), some (vI x3), some (vI x4)] [] (sh, I, L) (0, 0)) (kf : ¬ (x3 ≤ x2) → K 40 [none, none, none, none, none] [] (sh, I, L) (0, 0)) : K 35 [some (vL w0), none, some (vI x2), some (vI x3), some (vI x4)] [] (sh, I, L) (0, 0) := by
  refine hK.1 35 [some (vL w0), none, some (vI x2), some (vI x3), some (vI x4)] [] (sh, I, L) (0, 0) ?_
  refine hK.1 36 [some (vL w0), none, some (vI x2), some (vI x3), some (vI x4)] [vI x2] (sh, I, L) (0, 0) ?_
  refine hK.1 37 [some (vL w0), none, some (vI x2), some (vI x3), some (vI x4)] [vI x3, vI x2] (sh, I, L) (0, 0) ?_
  exact And.intro (And.intro n37a n37b) (And.intro (fun h => hK.2 [true, false, true, true, true] _ _ _ _ _ (kt h)) (fun h => hK.2 [false, false, false, false, false] _ _ _ _ _ (kf h)))
set_option maxRecDepth 4000 in
theorem B_X11_lettersIn_40 {Q : oQ} {K : oK} (hK : oCl tb_X11_lettersIn Q K) {sh : oS} {I : Nat → Nat → Int} {L : Nat → Nat → Int64}  (k : Q (some (vI (-1))) (sh, I, L)) : K 40 [none, none, none, none, none] [] (sh, I, L) (0, 0) := by
  refine hK.1 40 [none, none, none, none, none] [] (sh, I, L) (0, 0) ?_
  refine hK.1 41 [none, none, none, none, none] [vI (-1)] (sh, I, L) (0, 0) ?_
  exact And.intro ⟨by decide, by decide⟩ k
set_option maxRecDepth 4000 in
theorem B_X11_lettersIn_42 {Q : oQ} {K : oK} (hK : oCl tb_X11_lettersIn Q K) {sh : oS} {I : Nat → Nat → Int} {L : Nat → Nat → Int64} {w0 : Int64} {x2 : Int} {x3 : Int} {x4 : Int} (n44 : inR x4) (kt : x4 = 0 → K 50 [some (vL w0), none, some (vI x2), some (vI x3), none] [] (sh, I, L) (0, 0)) (kf : ¬ (x4 = 0) → K 47 [some (vL w0), none, some (vI x2), some (vI x3), none] [] (sh, I, L) (0, 0)) : K 42 [some (vL w0), none, some (vI x2), some (vI x3), some (vI x4)] [] (sh, I, L) (0, 0) := by
  refine hK.1 42 [some (vL w0), none, some (vI x2), some (vI x3), some (vI x4)] [] (sh, I, L) (0, 0) ?_
  refine hK.1 44 [some (vL w0), none, some (vI x2), some (vI x3), some (vI x4)] [vI x4] (sh, I, L) (0, 0) ?_
  exact And.intro (n44) (And.intro (fun h => hK.2 [true, false, true, true, false] _ _ _ _ _ (kt h)) (fun h => hK.2 [true, false, true, true, false] _ _ _ _ _ (kf h)))
set_option maxRecDepth 4000 in
theorem B_X11_lettersIn_47 {Q : oQ} {K : oK} (hK : oCl tb_X11_lettersIn Q K) {sh : oS} {I : Nat → Nat → Int} {L : Nat → Nat → Int64} {w0 : Int64} {x2 : Int} {x3 : Int} (k : K 50 [some (vL w0), none, some (vI (x2 + 1)), some (vI x3), none] [] (sh, I, L) (0, 0)) : K 47 [some (vL w0), none, some (vI x2), some (vI x3), none] [] (sh, I, L) (0, 0) := by
  refine hK.1 47 [some (vL w0), none, some (vI x2), some (vI x3), none] [] (sh, I, L) (0, 0) ?_
  exact k
set_option maxRecDepth 4000 in
theorem B_X11_lettersIn_50 {Q : oQ} {K : oK} (hK : oCl tb_X11_lettersIn Q K) {sh : oS} {I : Nat → Nat → Int} {L : Nat → Nat → Int64} {w0 : Int64} {x2 : Int} {x3 : Int} (k : K 4 [some (vL w0), none, some (vI x2), some (vI (x3 + 1)), none] [] (sh, I, L) (0, 0)) : K 50 [some (vL w0), none, some (vI x2), some (vI x3), none] [] (sh, I, L) (0, 0) := by
  refine hK.1 50 [some (vL w0), none, some (vI x2), some (vI x3), none] [] (sh, I, L) (0, 0) ?_
  refine hK.1 53 [some (vL w0), none, some (vI x2), some (vI (x3 + 1)), none] [] (sh, I, L) (0, 0) ?_
  exact k
set_option maxRecDepth 4000 in
theorem B_X11_lettersIn_56 {Q : oQ} {K : oK} (hK : oCl tb_X11_lettersIn Q K) {sh : oS} {I : Nat → Nat → Int} {L : Nat → Nat → Int64} {x2 : Int} (k : Q (some (vI x2)) (sh, I, L)) : K 56 [none, none, some (vI x2), none, none] [] (sh, I, L) (0, 0) := by
  refine hK.1 56 [none, none, some (vI x2), none, none] [] (sh, I, L) (0, 0) ?_
  refine hK.1 57 [none, none, some (vI x2), none, none] [vI x2] (sh, I, L) (0, 0) ?_
  exact And.intro ⟨by decide, by decide⟩ k
set_option maxRecDepth 4000 in
theorem B_X11_letters_0 {Q : oQ} {K : oK} (hK : oCl tb_X11_letters Q K) {sh : oS} {I : Nat → Nat → Int} {L : Nat → Nat → Int64} {w1 : Int64} (k : T_X11_lettersIn [vL w1] (sh, I, L) (fun r mm => K 4 [some (vR 0), some (vL w1), none, none, none] (r.toList ++ []) mm (0, 0))) : K 0 [some (vR 0), some (vL w1), none, none, none] [] (sh, I, L) (0, 0) := by
  refine hK.1 0 [some (vR 0), some (vL w1), none, none, none] [] (sh, I, L) (0, 0) ?_
  refine hK.1 1 [some (vR 0), some (vL w1), none, none, none] [vL w1] (sh, I, L) (0, 0) ?_
  exact And.intro ⟨Nat.le_of_ble_eq_true rfl, Nat.le_of_ble_eq_true rfl, Nat.le_of_ble_eq_true rfl, Nat.le_of_ble_eq_true rfl⟩ k
set_option maxRecDepth 4000 in
theorem B_X11_letters_4 {Q : oQ} {K : oK} (hK : oCl tb_X11_letters Q K) {sh : oS} {I : Nat → Nat → Int} {L : Nat → Nat → Int64} {w1 : Int64} {s0 : Int} (n6 : inR s0) (kt : 0 ≤ s0 → K 12 [some (vR 0), some (vL w1), none, some (vI s0), none] [] (sh, I, L) (0, 0)) (kf : ¬ (0 ≤ s0) → K 9 [none, none, none, none, none] [] (sh, I, L) (0, 0)) : K 4 [some (vR 0), some (vL w1), none, none, none] [vI s0] (sh, I, L) (0, 0) := by
  refine hK.1 4 [some (vR 0), some (vL w1), none, none, none] [vI s0] (sh, I, L) (0, 0) ?_
  refine hK.1 5 [some (vR 0), some (vL w1), none, some (vI s0), none] [] (sh, I, L) (0, 0) ?_
  refine hK.1 6 [some (vR 0), some (vL w1), none, some (vI s0), none] [vI s0] (sh, I, L) (0, 0) ?_
  exact And.intro (n6) (And.intro (fun h => hK.2 [true, true, false, true, false] _ _ _ _ _ (kt h)) (fun h => hK.2 [false, false, false, false, false] _ _ _ _ _ (kf h)))
set_option maxRecDepth 4000 in
theorem B_X11_letters_9 {Q : oQ} {K : oK} (hK : oCl tb_X11_letters Q K) {sh : oS} {I : Nat → Nat → Int} {L : Nat → Nat → Int64}  (k : Q (some (vI (-102))) (sh, I, L)) : K 9 [none, none, none, none, none] [] (sh, I, L) (0, 0) := by
  refine hK.1 9 [none, none, none, none, none] [] (sh, I, L) (0, 0) ?_
  refine hK.1 11 [none, none, none, none, none] [vI (-102)] (sh, I, L) (0, 0) ?_
  exact And.intro ⟨by decide, by decide⟩ k
set_option maxRecDepth 4000 in
theorem B_X11_letters_12 {Q : oQ} {K : oK} (hK : oCl tb_X11_letters Q K) {sh : oS} (hs : Sh sh) {I : Nat → Nat → Int} {L : Nat → Nat → Int64} {w1 : Int64} {x3 : Int} (n23a : inR ((I 1 1) + x3)) (kt : (I 1 1) + x3 ≤ 60 → K 29 [some (vR 0), some (vL w1), none, some (vI x3), none] [] (sh, I, L) (0, 0)) (kf : ¬ ((I 1 1) + x3 ≤ 60) → K 26 [none, none, none, none, none] [] (sh, I, L) (0, 0)) : K 12 [some (vR 0), some (vL w1), none, some (vI x3), none] [] (sh, I, L) (0, 0) := by
  refine hK.1 12 [some (vR 0), some (vL w1), none, some (vI x3), none] [] (sh, I, L) (0, 0) ?_
  refine hK.1 13 [some (vR 0), some (vL w1), none, some (vI x3), none] [vR 0] (sh, I, L) (0, 0) ?_
  refine And.intro (mem1 (sk_0 hs)) (Exists.intro 1 (And.intro (sr_0_0 hs) ?_))
  refine hK.1 16 [some (vR 0), some (vL w1), none, some (vI x3), none] [vR 1] (sh, I, L) (0, 0) ?_
  refine And.intro (mem1 (sk_1 hs)) ?_
  refine hK.1 19 [some (vR 0), some (vL w1), none, some (vI x3), none] [vI (I 1 1)] (sh, I, L) (0, 0) ?_
  refine hK.1 20 [some (vR 0), some (vL w1), none, some (vI x3), none] [vI x3, vI (I 1 1)] (sh, I, L) (0, 0) ?_
  refine hK.1 21 [some (vR 0), some (vL w1), none, some (vI x3), none] [vI ((I 1 1) + x3)] (sh, I, L) (0, 0) ?_
  refine hK.1 23 [some (vR 0), some (vL w1), none, some (vI x3), none] [vI 60, vI ((I 1 1) + x3)] (sh, I, L) (0, 0) ?_
  exact And.intro (And.intro n23a ⟨by decide, by decide⟩) (And.intro (fun h => hK.2 [true, true, false, true, false] _ _ _ _ _ (kt h)) (fun h => hK.2 [false, false, false, false, false] _ _ _ _ _ (kf h)))
set_option maxRecDepth 4000 in
theorem B_X11_letters_26 {Q : oQ} {K : oK} (hK : oCl tb_X11_letters Q K) {sh : oS} {I : Nat → Nat → Int} {L : Nat → Nat → Int64}  (k : Q (some (vI (-104))) (sh, I, L)) : K 26 [none, none, none, none, none] [] (sh, I, L) (0, 0) := by
  refine hK.1 26 [none, none, none, none, none] [] (sh, I, L) (0, 0) ?_
  refine hK.1 28 [none, none, none, none, none] [vI (-104)] (sh, I, L) (0, 0) ?_
  exact And.intro ⟨by decide, by decide⟩ k
set_option maxRecDepth 4000 in
theorem B_X11_letters_29 {Q : oQ} {K : oK} (hK : oCl tb_X11_letters Q K) {sh : oS} {I : Nat → Nat → Int} {L : Nat → Nat → Int64} {w1 : Int64} {x3 : Int} (k : K 32 [some (vR 0), some (vL w1), none, some (vI x3), some (vI 0)] [] (sh, I, L) (0, 0)) : K 29 [some (vR 0), some (vL w1), none, some (vI x3), none] [] (sh, I, L) (0, 0) := by
  refine hK.1 29 [some (vR 0), some (vL w1), none, some (vI x3), none] [] (sh, I, L) (0, 0) ?_
  refine hK.1 30 [some (vR 0), some (vL w1), none, some (vI x3), none] [vI 0] (sh, I, L) (0, 0) ?_
  exact k
set_option maxRecDepth 4000 in
theorem B_X11_letters_32 {Q : oQ} {K : oK} (hK : oCl tb_X11_letters Q K) {sh : oS} {I : Nat → Nat → Int} {L : Nat → Nat → Int64} {w1 : Int64} {x3 : Int} {x4 : Int} (n35a : inR x4) (n35b : inR x3) (kt : x3 ≤ x4 → K 63 [some (vR 0), none, none, none, none] [] (sh, I, L) (0, 0)) (kf : ¬ (x3 ≤ x4) → K 38 [some (vR 0), some (vL w1), none, some (vI x3), some (vI x4)] [] (sh, I, L) (0, 0)) : K 32 [some (vR 0), some (vL w1), none, some (vI x3), some (vI x4)] [] (sh, I, L) (0, 0) := by
  refine hK.1 32 [some (vR 0), some (vL w1), none, some (vI x3), some (vI x4)] [] (sh, I, L) (0, 0) ?_
  refine hK.1 34 [some (vR 0), some (vL w1), none, some (vI x3), some (vI x4)] [vI x4] (sh, I, L) (0, 0) ?_
  refine hK.1 35 [some (vR 0), some (vL w1), none, some (vI x3), some (vI x4)] [vI x3, vI x4] (sh, I, L) (0, 0) ?_
  exact And.intro (And.intro n35a n35b) (And.intro (fun h => hK.2 [true, false, false, false, false] _ _ _ _ _ (kt h)) (fun h => hK.2 [true, true, false, true, true] _ _ _ _ _ (kf h)))
set_option maxRecDepth 4000 in
theorem B_X11_letters_38 {Q : oQ} {K : oK} (hK : oCl tb_X11_letters Q K) {sh : oS} (hs : Sh sh) {I : Nat → Nat → Int} {L : Nat → Nat → Int64} {w1 : Int64} {x3 : Int} {x4 : Int} (k : T_X8_put [vR 1, vI (fAnd ((Int64.toInt32 (gUshr w1 (Int32.ofInt (8 * x4)))).toInt) 255)] (sh, I, L) (fun r mm => K 57 [some (vR 0), some (vL w1), none, some (vI x3), some (vI x4)] (r.toList ++ []) mm (0, 0))) : K 38 [some (vR 0), some (vL w1), none, some (vI x3), some (vI x4)] [] (sh, I, L) (0, 0) := by
  refine hK.1 38 [some (vR 0), some (vL w1), none, some (vI x3), some (vI x4)] [] (sh, I, L) (0, 0) ?_
  refine hK.1 39 [some (vR 0), some (vL w1), none, some (vI x3), some (vI x4)] [vR 0] (sh, I, L) (0, 0) ?_
  refine And.intro (mem1 (sk_0 hs)) (Exists.intro 1 (And.intro (sr_0_0 hs) ?_))
  refine hK.1 42 [some (vR 0), some (vL w1), none, some (vI x3), some (vI x4)] [vR 1] (sh, I, L) (0, 0) ?_
  refine hK.1 43 [some (vR 0), some (vL w1), none, some (vI x3), some (vI x4)] [vL w1, vR 1] (sh, I, L) (0, 0) ?_
  refine hK.1 45 [some (vR 0), some (vL w1), none, some (vI x3), some (vI x4)] [vI 8, vL w1, vR 1] (sh, I, L) (0, 0) ?_
  refine hK.1 47 [some (vR 0), some (vL w1), none, some (vI x3), some (vI x4)] [vI x4, vI 8, vL w1, vR 1] (sh, I, L) (0, 0) ?_
  refine hK.1 48 [some (vR 0), some (vL w1), none, some (vI x3), some (vI x4)] [vI (8 * x4), vL w1, vR 1] (sh, I, L) (0, 0) ?_
  refine hK.1 49 [some (vR 0), some (vL w1), none, some (vI x3), some (vI x4)] [vL (gUshr w1 (Int32.ofInt (8 * x4))), vR 1] (sh, I, L) (0, 0) ?_
  refine hK.1 50 [some (vR 0), some (vL w1), none, some (vI x3), some (vI x4)] [vI ((Int64.toInt32 (gUshr w1 (Int32.ofInt (8 * x4)))).toInt), vR 1] (sh, I, L) (0, 0) ?_
  refine hK.1 53 [some (vR 0), some (vL w1), none, some (vI x3), some (vI x4)] [vI 255, vI ((Int64.toInt32 (gUshr w1 (Int32.ofInt (8 * x4)))).toInt), vR 1] (sh, I, L) (0, 0) ?_
  refine hK.1 54 [some (vR 0), some (vL w1), none, some (vI x3), some (vI x4)] [vI (fAnd ((Int64.toInt32 (gUshr w1 (Int32.ofInt (8 * x4)))).toInt) 255), vR 1] (sh, I, L) (0, 0) ?_
  exact And.intro ⟨(sk_1 hs), Nat.le_of_ble_eq_true rfl, Nat.le_of_ble_eq_true rfl, Nat.le_of_ble_eq_true rfl, Nat.le_of_ble_eq_true rfl⟩ k
set_option maxRecDepth 4000 in
theorem B_X11_letters_57 {Q : oQ} {K : oK} (hK : oCl tb_X11_letters Q K) {sh : oS} {I : Nat → Nat → Int} {L : Nat → Nat → Int64} {w1 : Int64} {x3 : Int} {x4 : Int} (k : K 32 [some (vR 0), some (vL w1), none, some (vI x3), some (vI (x4 + 1))] [] (sh, I, L) (0, 0)) : K 57 [some (vR 0), some (vL w1), none, some (vI x3), some (vI x4)] [] (sh, I, L) (0, 0) := by
  refine hK.1 57 [some (vR 0), some (vL w1), none, some (vI x3), some (vI x4)] [] (sh, I, L) (0, 0) ?_
  refine hK.1 60 [some (vR 0), some (vL w1), none, some (vI x3), some (vI (x4 + 1))] [] (sh, I, L) (0, 0) ?_
  exact k
set_option maxRecDepth 4000 in
theorem B_X11_letters_63 {Q : oQ} {K : oK} (hK : oCl tb_X11_letters Q K) {sh : oS} (hs : Sh sh) {I : Nat → Nat → Int} {L : Nat → Nat → Int64}  (k : Q (some (vI (I 1 1))) (sh, I, L)) : K 63 [some (vR 0), none, none, none, none] [] (sh, I, L) (0, 0) := by
  refine hK.1 63 [some (vR 0), none, none, none, none] [] (sh, I, L) (0, 0) ?_
  refine hK.1 64 [some (vR 0), none, none, none, none] [vR 0] (sh, I, L) (0, 0) ?_
  refine And.intro (mem1 (sk_0 hs)) (Exists.intro 1 (And.intro (sr_0_0 hs) ?_))
  refine hK.1 67 [some (vR 0), none, none, none, none] [vR 1] (sh, I, L) (0, 0) ?_
  refine And.intro (mem1 (sk_1 hs)) ?_
  refine hK.1 70 [some (vR 0), none, none, none, none] [vI (I 1 1)] (sh, I, L) (0, 0) ?_
  exact And.intro ⟨by decide, by decide⟩ k
set_option maxRecDepth 4000 in
theorem B_X11_madePlan_0 {Q : oQ} {K : oK} (hK : oCl tb_X11_madePlan Q K) {sh : oS} {I : Nat → Nat → Int} {L : Nat → Nat → Int64} {x0 : Int} {x1 : Int} {x2 : Int} (k : K (swT 1 [28, 38, 48] 57 x0) [none, some (vI x1), some (vI x2)] [] (sh, I, L) (0, 0)) (n1 : inR x0) : K 0 [some (vI x0), some (vI x1), some (vI x2)] [] (sh, I, L) (0, 0) := by
  refine hK.1 0 [some (vI x0), some (vI x1), some (vI x2)] [] (sh, I, L) (0, 0) ?_
  refine hK.1 1 [some (vI x0), some (vI x1), some (vI x2)] [vI x0] (sh, I, L) (0, 0) ?_
  exact And.intro n1 (hK.2 [false, true, true] _ _ _ _ _ k)
set_option maxRecDepth 4000 in
theorem B_X11_madePlan_28 {Q : oQ} {K : oK} (hK : oCl tb_X11_madePlan Q K) {sh : oS} {I : Nat → Nat → Int} {L : Nat → Nat → Int64} {x1 : Int} {x2 : Int} (k : T_X3_init [vR (sN sh), vI x1, vI x2] ((sNew sh 3 0), (iNew sh I), (lNew sh L)) (fun r mm => K 37 [none, none, none] (r.toList ++ [vR (sN sh)]) mm (1, 2))) : K 28 [none, some (vI x1), some (vI x2)] [] (sh, I, L) (0, 0) := by
  refine hK.1 28 [none, some (vI x1), some (vI x2)] [] (sh, I, L) (0, 0) ?_
  refine And.intro ⟨by decide, by decide⟩ ?_
  refine hK.1 31 [none, some (vI x1), some (vI x2)] [vR (sN sh)] ((sNew sh 3 0), (iNew sh I), (lNew sh L)) (1, 2) ?_
  refine hK.1 32 [none, some (vI x1), some (vI x2)] [vR (sN sh), vR (sN sh)] ((sNew sh 3 0), (iNew sh I), (lNew sh L)) (1, 2) ?_
  refine hK.1 33 [none, some (vI x1), some (vI x2)] [vI x1, vR (sN sh), vR (sN sh)] ((sNew sh 3 0), (iNew sh I), (lNew sh L)) (1, 2) ?_
  refine hK.2 [false, false, false] _ _ _ _ _ ?_
  refine hK.1 34 [none, none, none] [vI x2, vI x1, vR (sN sh), vR (sN sh)] ((sNew sh 3 0), (iNew sh I), (lNew sh L)) (1, 2) ?_
  exact And.intro ⟨Nat.le_of_ble_eq_true rfl, Nat.le_of_ble_eq_true rfl, Nat.le_of_ble_eq_true rfl, Nat.le_of_ble_eq_true rfl⟩ k
set_option maxRecDepth 4000 in
theorem B_X11_madePlan_37 {Q : oQ} {K : oK} (hK : oCl tb_X11_madePlan Q K) {sh : oS} {I : Nat → Nat → Int} {L : Nat → Nat → Int64} {s0 : Nat} (k : Q (some (vR s0)) (sh, I, L)) : K 37 [none, none, none] [vR s0] (sh, I, L) (1, 2) := by
  refine hK.1 37 [none, none, none] [vR s0] (sh, I, L) (1, 2) ?_
  exact And.intro ⟨by decide, by decide⟩ k
set_option maxRecDepth 4000 in
theorem B_X11_madePlan_38 {Q : oQ} {K : oK} (hK : oCl tb_X11_madePlan Q K) {sh : oS} {I : Nat → Nat → Int} {L : Nat → Nat → Int64} {x1 : Int} {x2 : Int} (k : T_X5_init [vR (sN sh), vI x1, vI x2] ((sNew sh 5 0), (iNew sh I), (lNew sh L)) (fun r mm => K 47 [none, none, none] (r.toList ++ [vR (sN sh)]) mm (1, 2))) : K 38 [none, some (vI x1), some (vI x2)] [] (sh, I, L) (0, 0) := by
  refine hK.1 38 [none, some (vI x1), some (vI x2)] [] (sh, I, L) (0, 0) ?_
  refine And.intro ⟨by decide, by decide⟩ ?_
  refine hK.1 41 [none, some (vI x1), some (vI x2)] [vR (sN sh)] ((sNew sh 5 0), (iNew sh I), (lNew sh L)) (1, 2) ?_
  refine hK.1 42 [none, some (vI x1), some (vI x2)] [vR (sN sh), vR (sN sh)] ((sNew sh 5 0), (iNew sh I), (lNew sh L)) (1, 2) ?_
  refine hK.1 43 [none, some (vI x1), some (vI x2)] [vI x1, vR (sN sh), vR (sN sh)] ((sNew sh 5 0), (iNew sh I), (lNew sh L)) (1, 2) ?_
  refine hK.2 [false, false, false] _ _ _ _ _ ?_
  refine hK.1 44 [none, none, none] [vI x2, vI x1, vR (sN sh), vR (sN sh)] ((sNew sh 5 0), (iNew sh I), (lNew sh L)) (1, 2) ?_
  exact And.intro ⟨Nat.le_of_ble_eq_true rfl, Nat.le_of_ble_eq_true rfl, Nat.le_of_ble_eq_true rfl, Nat.le_of_ble_eq_true rfl⟩ k
set_option maxRecDepth 4000 in
theorem B_X11_madePlan_47 {Q : oQ} {K : oK} (hK : oCl tb_X11_madePlan Q K) {sh : oS} {I : Nat → Nat → Int} {L : Nat → Nat → Int64} {s0 : Nat} (k : Q (some (vR s0)) (sh, I, L)) : K 47 [none, none, none] [vR s0] (sh, I, L) (1, 2) := by
  refine hK.1 47 [none, none, none] [vR s0] (sh, I, L) (1, 2) ?_
  exact And.intro ⟨by decide, by decide⟩ k
set_option maxRecDepth 4000 in
theorem B_X11_madePlan_48 {Q : oQ} {K : oK} (hK : oCl tb_X11_madePlan Q K) {sh : oS} {I : Nat → Nat → Int} {L : Nat → Nat → Int64} {x1 : Int} (k : T_X1_init [vR (sN sh), vI x1] ((sNew sh 1 0), (iNew sh I), (lNew sh L)) (fun r mm => K 56 [none, none, none] (r.toList ++ [vR (sN sh)]) mm (1, 2))) : K 48 [none, some (vI x1), none] [] (sh, I, L) (0, 0) := by
  refine hK.1 48 [none, some (vI x1), none] [] (sh, I, L) (0, 0) ?_
  refine And.intro ⟨by decide, by decide⟩ ?_
  refine hK.1 51 [none, some (vI x1), none] [vR (sN sh)] ((sNew sh 1 0), (iNew sh I), (lNew sh L)) (1, 2) ?_
  refine hK.1 52 [none, some (vI x1), none] [vR (sN sh), vR (sN sh)] ((sNew sh 1 0), (iNew sh I), (lNew sh L)) (1, 2) ?_
  refine hK.2 [false, false, false] _ _ _ _ _ ?_
  refine hK.1 53 [none, none, none] [vI x1, vR (sN sh), vR (sN sh)] ((sNew sh 1 0), (iNew sh I), (lNew sh L)) (1, 2) ?_
  exact And.intro ⟨Nat.le_of_ble_eq_true rfl, Nat.le_of_ble_eq_true rfl, Nat.le_of_ble_eq_true rfl, Nat.le_of_ble_eq_true rfl⟩ k
set_option maxRecDepth 4000 in
theorem B_X11_madePlan_56 {Q : oQ} {K : oK} (hK : oCl tb_X11_madePlan Q K) {sh : oS} {I : Nat → Nat → Int} {L : Nat → Nat → Int64} {s0 : Nat} (k : Q (some (vR s0)) (sh, I, L)) : K 56 [none, none, none] [vR s0] (sh, I, L) (1, 2) := by
  refine hK.1 56 [none, none, none] [vR s0] (sh, I, L) (1, 2) ?_
  exact And.intro ⟨by decide, by decide⟩ k
set_option maxRecDepth 4000 in
theorem B_X11_madePlan_57 {Q : oQ} {K : oK} (hK : oCl tb_X11_madePlan Q K) {sh : oS} {I : Nat → Nat → Int} {L : Nat → Nat → Int64} {x1 : Int} {x2 : Int} (k : T_X0_init [vR (sN sh), vI x1, vI x2] ((sNew sh 0 0), (iNew sh I), (lNew sh L)) (fun r mm => K 66 [none, none, none] (r.toList ++ [vR (sN sh)]) mm (1, 2))) : K 57 [none, some (vI x1), some (vI x2)] [] (sh, I, L) (0, 0) := by
  refine hK.1 57 [none, some (vI x1), some (vI x2)] [] (sh, I, L) (0, 0) ?_
  refine And.intro ⟨by decide, by decide⟩ ?_
  refine hK.1 60 [none, some (vI x1), some (vI x2)] [vR (sN sh)] ((sNew sh 0 0), (iNew sh I), (lNew sh L)) (1, 2) ?_
  refine hK.1 61 [none, some (vI x1), some (vI x2)] [vR (sN sh), vR (sN sh)] ((sNew sh 0 0), (iNew sh I), (lNew sh L)) (1, 2) ?_
  refine hK.1 62 [none, some (vI x1), some (vI x2)] [vI x1, vR (sN sh), vR (sN sh)] ((sNew sh 0 0), (iNew sh I), (lNew sh L)) (1, 2) ?_
  refine hK.2 [false, false, false] _ _ _ _ _ ?_
  refine hK.1 63 [none, none, none] [vI x2, vI x1, vR (sN sh), vR (sN sh)] ((sNew sh 0 0), (iNew sh I), (lNew sh L)) (1, 2) ?_
  exact And.intro ⟨Nat.le_of_ble_eq_true rfl, Nat.le_of_ble_eq_true rfl, Nat.le_of_ble_eq_true rfl, Nat.le_of_ble_eq_true rfl⟩ k
set_option maxRecDepth 4000 in
theorem B_X11_madePlan_66 {Q : oQ} {K : oK} (hK : oCl tb_X11_madePlan Q K) {sh : oS} {I : Nat → Nat → Int} {L : Nat → Nat → Int64} {s0 : Nat} (k : Q (some (vR s0)) (sh, I, L)) : K 66 [none, none, none] [vR s0] (sh, I, L) (1, 2) := by
  refine hK.1 66 [none, none, none] [vR s0] (sh, I, L) (1, 2) ?_
  exact And.intro ⟨by decide, by decide⟩ k
set_option maxRecDepth 4000 in
theorem B_X11_march_0 {Q : oQ} {K : oK} (hK : oCl tb_X11_march Q K) {sh : oS} (hs : Sh sh) {I : Nat → Nat → Int} {L : Nat → Nat → Int64} {q0_6 : Nat} {q0_6e q0_6p q0_6t : Nat} (r0_6 : sR sh 0 6 = some q0_6) (k : T_X6_read [vR q0_6, vR 1] (sh, I, L) (fun r mm => K 11 [some (vR 0)] (r.toList ++ []) mm (0, 0))) (Aq0_6 : MarchAt sh q0_6 q0_6e q0_6p q0_6t) : K 0 [some (vR 0)] [] (sh, I, L) (0, 0) := by
  refine hK.1 0 [some (vR 0)] [] (sh, I, L) (0, 0) ?_
  refine hK.1 1 [some (vR 0)] [vR 0] (sh, I, L) (0, 0) ?_
  refine And.intro (mem1 (sk_0 hs)) (Exists.intro q0_6 (And.intro r0_6 ?_))
  refine hK.1 4 [some (vR 0)] [vR q0_6] (sh, I, L) (0, 0) ?_
  refine hK.1 5 [some (vR 0)] [vR 0, vR q0_6] (sh, I, L) (0, 0) ?_
  refine And.intro (mem1 (sk_0 hs)) (Exists.intro 1 (And.intro (sr_0_0 hs) ?_))
  refine hK.1 8 [some (vR 0)] [vR 1, vR q0_6] (sh, I, L) (0, 0) ?_
  exact And.intro ⟨Aq0_6.1, Nat.le_of_ble_eq_true rfl, Nat.le_of_ble_eq_true rfl, Nat.le_of_ble_eq_true rfl, Nat.le_of_ble_eq_true rfl⟩ k
set_option maxRecDepth 4000 in
theorem B_X11_march_11 {Q : oQ} {K : oK} (hK : oCl tb_X11_march Q K) {sh : oS} {I : Nat → Nat → Int} {L : Nat → Nat → Int64} {s0 : Int} (n11 : inR s0) (kt : ¬ s0 = 0 → K 17 [some (vR 0)] [] (sh, I, L) (0, 0)) (kf : ¬ (¬ s0 = 0) → K 14 [none] [] (sh, I, L) (0, 0)) : K 11 [some (vR 0)] [vI s0] (sh, I, L) (0, 0) := by
  refine hK.1 11 [some (vR 0)] [vI s0] (sh, I, L) (0, 0) ?_
  exact And.intro (n11) (And.intro (fun h => hK.2 [true] _ _ _ _ _ (kt h)) (fun h => hK.2 [false] _ _ _ _ _ (kf h)))
set_option maxRecDepth 4000 in
theorem B_X11_march_14 {Q : oQ} {K : oK} (hK : oCl tb_X11_march Q K) {sh : oS} {I : Nat → Nat → Int} {L : Nat → Nat → Int64}  (k : Q (some (vI (-103))) (sh, I, L)) : K 14 [none] [] (sh, I, L) (0, 0) := by
  refine hK.1 14 [none] [] (sh, I, L) (0, 0) ?_
  refine hK.1 16 [none] [vI (-103)] (sh, I, L) (0, 0) ?_
  exact And.intro ⟨by decide, by decide⟩ k
set_option maxRecDepth 4000 in
theorem B_X11_march_17 {Q : oQ} {K : oK} (hK : oCl tb_X11_march Q K) {sh : oS} (hs : Sh sh) {I : Nat → Nat → Int} {L : Nat → Nat → Int64}  (n22a : inR (I 0 8)) (kt : I 0 8 < 4 → K 28 [some (vR 0)] [] (sh, I, L) (0, 0)) (kf : ¬ (I 0 8 < 4) → K 25 [none] [] (sh, I, L) (0, 0)) : K 17 [some (vR 0)] [] (sh, I, L) (0, 0) := by
  refine hK.1 17 [some (vR 0)] [] (sh, I, L) (0, 0) ?_
  refine hK.1 18 [some (vR 0)] [vR 0] (sh, I, L) (0, 0) ?_
  refine And.intro (mem1 (sk_0 hs)) ?_
  refine hK.1 21 [some (vR 0)] [vI (I 0 8)] (sh, I, L) (0, 0) ?_
  refine hK.1 22 [some (vR 0)] [vI 4, vI (I 0 8)] (sh, I, L) (0, 0) ?_
  exact And.intro (And.intro n22a ⟨by decide, by decide⟩) (And.intro (fun h => hK.2 [true] _ _ _ _ _ (kt h)) (fun h => hK.2 [false] _ _ _ _ _ (kf h)))
set_option maxRecDepth 4000 in
theorem B_X11_march_25 {Q : oQ} {K : oK} (hK : oCl tb_X11_march Q K) {sh : oS} {I : Nat → Nat → Int} {L : Nat → Nat → Int64}  (k : Q (some (vI (-104))) (sh, I, L)) : K 25 [none] [] (sh, I, L) (0, 0) := by
  refine hK.1 25 [none] [] (sh, I, L) (0, 0) ?_
  refine hK.1 27 [none] [vI (-104)] (sh, I, L) (0, 0) ?_
  exact And.intro ⟨by decide, by decide⟩ k
set_option maxRecDepth 4000 in
theorem B_X11_march_28 {Q : oQ} {K : oK} (hK : oCl tb_X11_march Q K) {sh : oS} (hs : Sh sh) {I : Nat → Nat → Int} {L : Nat → Nat → Int64} {q0_6 : Nat} {q0_6e q0_6p q0_6t : Nat} (r0_6 : sR sh 0 6 = some q0_6) (b40 : 0 ≤ I 0 8 ∧ I 0 8 < 4) (Aq0_6 : MarchAt sh q0_6 q0_6e q0_6p q0_6t) (k : K 41 [some (vR 0)] [] ((sPutR sh 9 ((I 0 8).toNat) (some q0_6)), I, L) (0, 0)) : K 28 [some (vR 0)] [] (sh, I, L) (0, 0) := by
  refine hK.1 28 [some (vR 0)] [] (sh, I, L) (0, 0) ?_
  refine hK.1 29 [some (vR 0)] [vR 0] (sh, I, L) (0, 0) ?_
  refine And.intro (mem1 (sk_0 hs)) (Exists.intro 9 (And.intro (sr_0_3 hs) ?_))
  refine hK.1 32 [some (vR 0)] [vR 9] (sh, I, L) (0, 0) ?_
  refine hK.1 33 [some (vR 0)] [vR 0, vR 9] (sh, I, L) (0, 0) ?_
  refine And.intro (mem1 (sk_0 hs)) ?_
  refine hK.1 36 [some (vR 0)] [vI (I 0 8), vR 9] (sh, I, L) (0, 0) ?_
  refine hK.1 37 [some (vR 0)] [vR 0, vI (I 0 8), vR 9] (sh, I, L) (0, 0) ?_
  refine And.intro (mem1 (sk_0 hs)) (Exists.intro q0_6 (And.intro r0_6 ?_))
  refine hK.1 40 [some (vR 0)] [vR q0_6, vI (I 0 8), vR 9] (sh, I, L) (0, 0) ?_
  refine And.intro (And.intro (sk_9 hs) (And.intro ((ixL (sl_9 hs) b40)).1 (And.intro ((ixL (sl_9 hs) b40)).2 (mem1 Aq0_6.1)))) ?_
  exact k
set_option maxRecDepth 4000 in
theorem B_X11_march_41 {Q : oQ} {K : oK} (hK : oCl tb_X11_march Q K) {sh : oS} {I : Nat → Nat → Int} {L : Nat → Nat → Int64}  (k : T_X6_init [vR (sN sh)] ((sNew sh 6 0), (iNew sh I), (lNew sh L)) (fun r mm => K 49 [some (vR 0)] (r.toList ++ [vR (sN sh), vR 0]) mm (4, 27))) : K 41 [some (vR 0)] [] (sh, I, L) (0, 0) := by
  refine hK.1 41 [some (vR 0)] [] (sh, I, L) (0, 0) ?_
  refine hK.1 42 [some (vR 0)] [vR 0] (sh, I, L) (0, 0) ?_
  refine And.intro ⟨by decide, by decide⟩ ?_
  refine hK.1 45 [some (vR 0)] [vR (sN sh), vR 0] ((sNew sh 6 0), (iNew sh I), (lNew sh L)) (1, 5) ?_
  refine hK.1 46 [some (vR 0)] [vR (sN sh), vR (sN sh), vR 0] ((sNew sh 6 0), (iNew sh I), (lNew sh L)) (1, 5) ?_
  exact And.intro ⟨Nat.le_of_ble_eq_true rfl, Nat.le_of_ble_eq_true rfl, Nat.le_of_ble_eq_true rfl, Nat.le_of_ble_eq_true rfl⟩ k
set_option maxRecDepth 4000 in
theorem B_X11_march_49 {Q : oQ} {K : oK} (hK : oCl tb_X11_march Q K) {sh : oS} (hs : Sh sh) {I : Nat → Nat → Int} {L : Nat → Nat → Int64} {s1 : Nat} (k : K 52 [some (vR 0)] [] ((sPutR sh 0 6 (some s1)), I, L) (4, 27)) : K 49 [some (vR 0)] [vR s1, vR 0] (sh, I, L) (4, 27) := by
  refine hK.1 49 [some (vR 0)] [vR s1, vR 0] (sh, I, L) (4, 27) ?_
  refine And.intro (mem1 (sk_0 hs)) ?_
  exact k
set_option maxRecDepth 4000 in
theorem B_X11_march_52 {Q : oQ} {K : oK} (hK : oCl tb_X11_march Q K) {sh : oS} (hs : Sh sh) {I : Nat → Nat → Int} {L : Nat → Nat → Int64}  (k : Q (some (vI (((I 0 8) + 1) - 1))) (sh, (u2 (u2 I 1 1 0) 0 8 ((I 0 8) + 1)), L)) : K 52 [some (vR 0)] [] (sh, I, L) (4, 27) := by
  refine hK.1 52 [some (vR 0)] [] (sh, I, L) (4, 27) ?_
  refine hK.1 53 [some (vR 0)] [vR 0] (sh, I, L) (4, 27) ?_
  refine And.intro (mem1 (sk_0 hs)) (Exists.intro 1 (And.intro (sr_0_0 hs) ?_))
  refine hK.1 56 [some (vR 0)] [vR 1] (sh, I, L) (4, 27) ?_
  refine hK.1 57 [some (vR 0)] [vI 0, vR 1] (sh, I, L) (4, 27) ?_
  refine And.intro (mem1 (sk_1 hs)) ?_
  refine hK.1 60 [some (vR 0)] [] (sh, (u2 I 1 1 0), L) (4, 27) ?_
  refine hK.1 61 [some (vR 0)] [vR 0] (sh, (u2 I 1 1 0), L) (4, 27) ?_
  refine hK.1 62 [some (vR 0)] [vR 0, vR 0] (sh, (u2 I 1 1 0), L) (4, 27) ?_
  refine And.intro (mem1 (sk_0 hs)) ?_
  refine hK.1 65 [some (vR 0)] [vI (I 0 8), vR 0] (sh, (u2 I 1 1 0), L) (4, 27) ?_
  refine hK.1 66 [some (vR 0)] [vI 1, vI (I 0 8), vR 0] (sh, (u2 I 1 1 0), L) (4, 27) ?_
  refine hK.1 67 [some (vR 0)] [vI ((I 0 8) + 1), vR 0] (sh, (u2 I 1 1 0), L) (4, 27) ?_
  refine And.intro (mem1 (sk_0 hs)) ?_
  refine hK.1 70 [some (vR 0)] [] (sh, (u2 (u2 I 1 1 0) 0 8 ((I 0 8) + 1)), L) (4, 27) ?_
  refine hK.1 71 [some (vR 0)] [vR 0] (sh, (u2 (u2 I 1 1 0) 0 8 ((I 0 8) + 1)), L) (4, 27) ?_
  refine And.intro (mem1 (sk_0 hs)) ?_
  refine hK.1 74 [some (vR 0)] [vI ((I 0 8) + 1)] (sh, (u2 (u2 I 1 1 0) 0 8 ((I 0 8) + 1)), L) (4, 27) ?_
  refine hK.1 75 [some (vR 0)] [vI 1, vI ((I 0 8) + 1)] (sh, (u2 (u2 I 1 1 0) 0 8 ((I 0 8) + 1)), L) (4, 27) ?_
  refine hK.1 76 [some (vR 0)] [vI (((I 0 8) + 1) - 1)] (sh, (u2 (u2 I 1 1 0) 0 8 ((I 0 8) + 1)), L) (4, 27) ?_
  exact And.intro ⟨by decide, by decide⟩ k
set_option maxRecDepth 4000 in
theorem B_X11_marchTold_0 {Q : oQ} {K : oK} (hK : oCl tb_X11_marchTold Q K) {sh : oS} (hs : Sh sh) {I : Nat → Nat → Int} {L : Nat → Nat → Int64} {x1 : Int} {x2 : Int} (k : T_X11_marchOf [vR 0, vI x1] (sh, I, L) (fun r mm => K 5 [none, none, some (vI x2), none] (r.toList ++ []) mm (0, 0))) : K 0 [some (vR 0), some (vI x1), some (vI x2), none] [] (sh, I, L) (0, 0) := by
  refine hK.1 0 [some (vR 0), some (vI x1), some (vI x2), none] [] (sh, I, L) (0, 0) ?_
  refine hK.1 1 [some (vR 0), some (vI x1), some (vI x2), none] [vR 0] (sh, I, L) (0, 0) ?_
  refine hK.2 [false, false, true, false] _ _ _ _ _ ?_
  refine hK.1 2 [none, none, some (vI x2), none] [vI x1, vR 0] (sh, I, L) (0, 0) ?_
  exact And.intro ⟨(sk_0 hs), Nat.le_of_ble_eq_true rfl, Nat.le_of_ble_eq_true rfl, Nat.le_of_ble_eq_true rfl, Nat.le_of_ble_eq_true rfl⟩ k
set_option maxRecDepth 4000 in
theorem B_X11_marchTold_5 {Q : oQ} {K : oK} (hK : oCl tb_X11_marchTold Q K) {sh : oS} {I : Nat → Nat → Int} {L : Nat → Nat → Int64} {x2 : Int} {s0 : Nat} (k : K 13 [none, none, some (vI x2), some (vR s0)] [] (sh, I, L) (0, 0)) : K 5 [none, none, some (vI x2), none] [vR s0] (sh, I, L) (0, 0) := by
  refine hK.1 5 [none, none, some (vI x2), none] [vR s0] (sh, I, L) (0, 0) ?_
  refine hK.1 6 [none, none, some (vI x2), some (vR s0)] [] (sh, I, L) (0, 0) ?_
  refine hK.1 7 [none, none, some (vI x2), some (vR s0)] [vR s0] (sh, I, L) (0, 0) ?_
  exact k
set_option maxRecDepth 4000 in
theorem B_X11_marchTold_5n {Q : oQ} {K : oK} (hK : oCl tb_X11_marchTold Q K) {sh : oS} {I : Nat → Nat → Int} {L : Nat → Nat → Int64} {x2 : Int} (k : K 10 [none, none, none, none] [] (sh, I, L) (0, 0)) : K 5 [none, none, some (vI x2), none] [vN] (sh, I, L) (0, 0) := by
  refine hK.1 5 [none, none, some (vI x2), none] [vN] (sh, I, L) (0, 0) ?_
  refine hK.1 6 [none, none, some (vI x2), some vN] [] (sh, I, L) (0, 0) ?_
  refine hK.1 7 [none, none, some (vI x2), some vN] [vN] (sh, I, L) (0, 0) ?_
  refine hK.2 [false, false, false, false] _ _ _ _ _ ?_
  exact k
set_option maxRecDepth 4000 in
theorem B_X11_marchTold_10 {Q : oQ} {K : oK} (hK : oCl tb_X11_marchTold Q K) {sh : oS} {I : Nat → Nat → Int} {L : Nat → Nat → Int64}  (k : Q (some (vI (-101))) (sh, I, L)) : K 10 [none, none, none, none] [] (sh, I, L) (0, 0) := by
  refine hK.1 10 [none, none, none, none] [] (sh, I, L) (0, 0) ?_
  refine hK.1 12 [none, none, none, none] [vI (-101)] (sh, I, L) (0, 0) ?_
  exact And.intro ⟨by decide, by decide⟩ k
set_option maxRecDepth 4000 in
theorem B_X11_marchTold_13 {Q : oQ} {K : oK} (hK : oCl tb_X11_marchTold Q K) {sh : oS} {I : Nat → Nat → Int} {L : Nat → Nat → Int64} {x2 : Int} {h3 : Nat} (n14 : inR x2) (kt : ¬ x2 = 0 → K 22 [none, none, some (vI x2), some (vR h3)] [] (sh, I, L) (0, 0)) (kf : ¬ (¬ x2 = 0) → K 17 [none, none, none, some (vR h3)] [] (sh, I, L) (0, 0)) : K 13 [none, none, some (vI x2), some (vR h3)] [] (sh, I, L) (0, 0) := by
  refine hK.1 13 [none, none, some (vI x2), some (vR h3)] [] (sh, I, L) (0, 0) ?_
  refine hK.1 14 [none, none, some (vI x2), some (vR h3)] [vI x2] (sh, I, L) (0, 0) ?_
  exact And.intro (n14) (And.intro (fun h => hK.2 [false, false, true, true] _ _ _ _ _ (kt h)) (fun h => hK.2 [false, false, false, true] _ _ _ _ _ (kf h)))
set_option maxRecDepth 4000 in
theorem B_X11_marchTold_13n {Q : oQ} {K : oK} (hK : oCl tb_X11_marchTold Q K) {sh : oS} {I : Nat → Nat → Int} {L : Nat → Nat → Int64} {x2 : Int} (n14 : inR x2) (kt : ¬ x2 = 0 → K 22 [none, none, some (vI x2), some vN] [] (sh, I, L) (0, 0)) (kf : ¬ (¬ x2 = 0) → K 17 [none, none, none, some vN] [] (sh, I, L) (0, 0)) : K 13 [none, none, some (vI x2), some vN] [] (sh, I, L) (0, 0) := by
  refine hK.1 13 [none, none, some (vI x2), some vN] [] (sh, I, L) (0, 0) ?_
  refine hK.1 14 [none, none, some (vI x2), some vN] [vI x2] (sh, I, L) (0, 0) ?_
  exact And.intro (n14) (And.intro (fun h => hK.2 [false, false, true, true] _ _ _ _ _ (kt h)) (fun h => hK.2 [false, false, false, true] _ _ _ _ _ (kf h)))
set_option maxRecDepth 4000 in
theorem B_X11_marchTold_17 {Q : oQ} {K : oK} (hK : oCl tb_X11_marchTold Q K) {sh : oS} {I : Nat → Nat → Int} {L : Nat → Nat → Int64} {h3 : Nat} {h3e h3p h3t : Nat} (Ah3 : MarchAt sh h3 h3e h3p h3t) (k : Q (some (vI (I h3 0))) (sh, I, L)) : K 17 [none, none, none, some (vR h3)] [] (sh, I, L) (0, 0) := by
  refine hK.1 17 [none, none, none, some (vR h3)] [] (sh, I, L) (0, 0) ?_
  refine hK.1 18 [none, none, none, some (vR h3)] [vR h3] (sh, I, L) (0, 0) ?_
  refine And.intro (mem1 Ah3.1) ?_
  refine hK.1 21 [none, none, none, some (vR h3)] [vI (I h3 0)] (sh, I, L) (0, 0) ?_
  exact And.intro ⟨by decide, by decide⟩ k
set_option maxRecDepth 4000 in
theorem B_X11_marchTold_22 {Q : oQ} {K : oK} (hK : oCl tb_X11_marchTold Q K) {sh : oS} {I : Nat → Nat → Int} {L : Nat → Nat → Int64} {x2 : Int} {h3 : Nat} (n24a : inR x2) (kt : ¬ x2 = 1 → K 32 [none, none, some (vI x2), some (vR h3)] [] (sh, I, L) (0, 0)) (kf : ¬ (¬ x2 = 1) → K 27 [none, none, none, some (vR h3)] [] (sh, I, L) (0, 0)) : K 22 [none, none, some (vI x2), some (vR h3)] [] (sh, I, L) (0, 0) := by
  refine hK.1 22 [none, none, some (vI x2), some (vR h3)] [] (sh, I, L) (0, 0) ?_
  refine hK.1 23 [none, none, some (vI x2), some (vR h3)] [vI x2] (sh, I, L) (0, 0) ?_
  refine hK.1 24 [none, none, some (vI x2), some (vR h3)] [vI 1, vI x2] (sh, I, L) (0, 0) ?_
  exact And.intro (And.intro n24a ⟨by decide, by decide⟩) (And.intro (fun h => hK.2 [false, false, true, true] _ _ _ _ _ (kt h)) (fun h => hK.2 [false, false, false, true] _ _ _ _ _ (kf h)))
set_option maxRecDepth 4000 in
theorem B_X11_marchTold_22n {Q : oQ} {K : oK} (hK : oCl tb_X11_marchTold Q K) {sh : oS} {I : Nat → Nat → Int} {L : Nat → Nat → Int64} {x2 : Int} (n24a : inR x2) (kt : ¬ x2 = 1 → K 32 [none, none, some (vI x2), some vN] [] (sh, I, L) (0, 0)) (kf : ¬ (¬ x2 = 1) → K 27 [none, none, none, some vN] [] (sh, I, L) (0, 0)) : K 22 [none, none, some (vI x2), some vN] [] (sh, I, L) (0, 0) := by
  refine hK.1 22 [none, none, some (vI x2), some vN] [] (sh, I, L) (0, 0) ?_
  refine hK.1 23 [none, none, some (vI x2), some vN] [vI x2] (sh, I, L) (0, 0) ?_
  refine hK.1 24 [none, none, some (vI x2), some vN] [vI 1, vI x2] (sh, I, L) (0, 0) ?_
  exact And.intro (And.intro n24a ⟨by decide, by decide⟩) (And.intro (fun h => hK.2 [false, false, true, true] _ _ _ _ _ (kt h)) (fun h => hK.2 [false, false, false, true] _ _ _ _ _ (kf h)))
set_option maxRecDepth 4000 in
theorem B_X11_marchTold_27 {Q : oQ} {K : oK} (hK : oCl tb_X11_marchTold Q K) {sh : oS} {I : Nat → Nat → Int} {L : Nat → Nat → Int64} {h3 : Nat} {h3e h3p h3t : Nat} (Ah3 : MarchAt sh h3 h3e h3p h3t) (k : Q (some (vI (I h3 1))) (sh, I, L)) : K 27 [none, none, none, some (vR h3)] [] (sh, I, L) (0, 0) := by
  refine hK.1 27 [none, none, none, some (vR h3)] [] (sh, I, L) (0, 0) ?_
  refine hK.1 28 [none, none, none, some (vR h3)] [vR h3] (sh, I, L) (0, 0) ?_
  refine And.intro (mem1 Ah3.1) ?_
  refine hK.1 31 [none, none, none, some (vR h3)] [vI (I h3 1)] (sh, I, L) (0, 0) ?_
  exact And.intro ⟨by decide, by decide⟩ k
set_option maxRecDepth 4000 in
theorem B_X11_marchTold_32 {Q : oQ} {K : oK} (hK : oCl tb_X11_marchTold Q K) {sh : oS} {I : Nat → Nat → Int} {L : Nat → Nat → Int64} {x2 : Int} {h3 : Nat} (n35a : inR x2) (kt : x2 < 10 → K 69 [none, none, some (vI x2), some (vR h3)] [] (sh, I, L) (0, 0)) (kf : ¬ (x2 < 10) → K 38 [none, none, some (vI x2), some (vR h3)] [] (sh, I, L) (0, 0)) : K 32 [none, none, some (vI x2), some (vR h3)] [] (sh, I, L) (0, 0) := by
  refine hK.1 32 [none, none, some (vI x2), some (vR h3)] [] (sh, I, L) (0, 0) ?_
  refine hK.1 33 [none, none, some (vI x2), some (vR h3)] [vI x2] (sh, I, L) (0, 0) ?_
  refine hK.1 35 [none, none, some (vI x2), some (vR h3)] [vI 10, vI x2] (sh, I, L) (0, 0) ?_
  exact And.intro (And.intro n35a ⟨by decide, by decide⟩) (And.intro (fun h => hK.2 [false, false, true, true] _ _ _ _ _ (kt h)) (fun h => hK.2 [false, false, true, true] _ _ _ _ _ (kf h)))
set_option maxRecDepth 4000 in
theorem B_X11_marchTold_32n {Q : oQ} {K : oK} (hK : oCl tb_X11_marchTold Q K) {sh : oS} {I : Nat → Nat → Int} {L : Nat → Nat → Int64} {x2 : Int} (n35a : inR x2) (kt : x2 < 10 → K 69 [none, none, some (vI x2), some vN] [] (sh, I, L) (0, 0)) (kf : ¬ (x2 < 10) → K 38 [none, none, some (vI x2), some vN] [] (sh, I, L) (0, 0)) : K 32 [none, none, some (vI x2), some vN] [] (sh, I, L) (0, 0) := by
  refine hK.1 32 [none, none, some (vI x2), some vN] [] (sh, I, L) (0, 0) ?_
  refine hK.1 33 [none, none, some (vI x2), some vN] [vI x2] (sh, I, L) (0, 0) ?_
  refine hK.1 35 [none, none, some (vI x2), some vN] [vI 10, vI x2] (sh, I, L) (0, 0) ?_
  exact And.intro (And.intro n35a ⟨by decide, by decide⟩) (And.intro (fun h => hK.2 [false, false, true, true] _ _ _ _ _ (kt h)) (fun h => hK.2 [false, false, true, true] _ _ _ _ _ (kf h)))
set_option maxRecDepth 4000 in
theorem B_X11_marchTold_38 {Q : oQ} {K : oK} (hK : oCl tb_X11_marchTold Q K) {sh : oS} {I : Nat → Nat → Int} {L : Nat → Nat → Int64} {x2 : Int} {h3 : Nat} (n41a : inR x2) (kt : 20 ≤ x2 → K 69 [none, none, some (vI x2), some (vR h3)] [] (sh, I, L) (0, 0)) (kf : ¬ (20 ≤ x2) → K 44 [none, none, some (vI x2), some (vR h3)] [] (sh, I, L) (0, 0)) : K 38 [none, none, some (vI x2), some (vR h3)] [] (sh, I, L) (0, 0) := by
  refine hK.1 38 [none, none, some (vI x2), some (vR h3)] [] (sh, I, L) (0, 0) ?_
  refine hK.1 39 [none, none, some (vI x2), some (vR h3)] [vI x2] (sh, I, L) (0, 0) ?_
  refine hK.1 41 [none, none, some (vI x2), some (vR h3)] [vI 20, vI x2] (sh, I, L) (0, 0) ?_
  exact And.intro (And.intro n41a ⟨by decide, by decide⟩) (And.intro (fun h => hK.2 [false, false, true, true] _ _ _ _ _ (kt h)) (fun h => hK.2 [false, false, true, true] _ _ _ _ _ (kf h)))
set_option maxRecDepth 4000 in
theorem B_X11_marchTold_38n {Q : oQ} {K : oK} (hK : oCl tb_X11_marchTold Q K) {sh : oS} {I : Nat → Nat → Int} {L : Nat → Nat → Int64} {x2 : Int} (n41a : inR x2) (kt : 20 ≤ x2 → K 69 [none, none, some (vI x2), some vN] [] (sh, I, L) (0, 0)) (kf : ¬ (20 ≤ x2) → K 44 [none, none, some (vI x2), some vN] [] (sh, I, L) (0, 0)) : K 38 [none, none, some (vI x2), some vN] [] (sh, I, L) (0, 0) := by
  refine hK.1 38 [none, none, some (vI x2), some vN] [] (sh, I, L) (0, 0) ?_
  refine hK.1 39 [none, none, some (vI x2), some vN] [vI x2] (sh, I, L) (0, 0) ?_
  refine hK.1 41 [none, none, some (vI x2), some vN] [vI 20, vI x2] (sh, I, L) (0, 0) ?_
  exact And.intro (And.intro n41a ⟨by decide, by decide⟩) (And.intro (fun h => hK.2 [false, false, true, true] _ _ _ _ _ (kt h)) (fun h => hK.2 [false, false, true, true] _ _ _ _ _ (kf h)))
set_option maxRecDepth 4000 in
theorem B_X11_marchTold_44 {Q : oQ} {K : oK} (hK : oCl tb_X11_marchTold Q K) {sh : oS} {I : Nat → Nat → Int} {L : Nat → Nat → Int64} {x2 : Int} {h3 : Nat} {h3e h3p h3t : Nat} (Ah3 : MarchAt sh h3 h3e h3p h3t) (n52a : inR (x2 - 10)) (n52b : inR (I h3 0)) (kt : I h3 0 ≤ x2 - 10 → K 67 [none, none, none, none] [] (sh, I, L) (0, 0)) (kf : ¬ (I h3 0 ≤ x2 - 10) → K 55 [none, none, some (vI x2), some (vR h3)] [] (sh, I, L) (0, 0)) : K 44 [none, none, some (vI x2), some (vR h3)] [] (sh, I, L) (0, 0) := by
  refine hK.1 44 [none, none, some (vI x2), some (vR h3)] [] (sh, I, L) (0, 0) ?_
  refine hK.1 45 [none, none, some (vI x2), some (vR h3)] [vI x2] (sh, I, L) (0, 0) ?_
  refine hK.1 47 [none, none, some (vI x2), some (vR h3)] [vI 10, vI x2] (sh, I, L) (0, 0) ?_
  refine hK.1 48 [none, none, some (vI x2), some (vR h3)] [vI (x2 - 10)] (sh, I, L) (0, 0) ?_
  refine hK.1 49 [none, none, some (vI x2), some (vR h3)] [vR h3, vI (x2 - 10)] (sh, I, L) (0, 0) ?_
  refine And.intro (mem1 Ah3.1) ?_
  refine hK.1 52 [none, none, some (vI x2), some (vR h3)] [vI (I h3 0), vI (x2 - 10)] (sh, I, L) (0, 0) ?_
  exact And.intro (And.intro n52a n52b) (And.intro (fun h => hK.2 [false, false, false, false] _ _ _ _ _ (kt h)) (fun h => hK.2 [false, false, true, true] _ _ _ _ _ (kf h)))
set_option maxRecDepth 4000 in
theorem B_X11_marchTold_55 {Q : oQ} {K : oK} (hK : oCl tb_X11_marchTold Q K) {sh : oS} {I : Nat → Nat → Int} {L : Nat → Nat → Int64} {x2 : Int} {h3 : Nat} {h3e h3p h3t : Nat} (Ah3 : MarchAt sh h3 h3e h3p h3t) (b63 : 0 ≤ x2 - 10 ∧ x2 - 10 < 10) (k : K 68 [none, none, none, none] [vI (I h3e ((x2 - 10).toNat))] (sh, I, L) (0, 0)) : K 55 [none, none, some (vI x2), some (vR h3)] [] (sh, I, L) (0, 0) := by
  refine hK.1 55 [none, none, some (vI x2), some (vR h3)] [] (sh, I, L) (0, 0) ?_
  refine hK.1 56 [none, none, some (vI x2), some (vR h3)] [vR h3] (sh, I, L) (0, 0) ?_
  refine And.intro (mem1 Ah3.1) (Exists.intro h3e (And.intro Ah3.2.1 ?_))
  refine hK.1 59 [none, none, some (vI x2), some (vR h3)] [vR h3e] (sh, I, L) (0, 0) ?_
  refine hK.1 60 [none, none, some (vI x2), some (vR h3)] [vI x2, vR h3e] (sh, I, L) (0, 0) ?_
  refine hK.1 62 [none, none, some (vI x2), some (vR h3)] [vI 10, vI x2, vR h3e] (sh, I, L) (0, 0) ?_
  refine hK.1 63 [none, none, some (vI x2), some (vR h3)] [vI (x2 - 10), vR h3e] (sh, I, L) (0, 0) ?_
  refine And.intro (And.intro (Ah3.2.2.2.2.1.1) (ixL (Ah3.2.2.2.2.1.2) b63)) ?_
  refine hK.1 64 [none, none, some (vI x2), some (vR h3)] [vI (I h3e ((x2 - 10).toNat))] (sh, I, L) (0, 0) ?_
  refine hK.2 [false, false, false, false] _ _ _ _ _ ?_
  exact k
set_option maxRecDepth 4000 in
theorem B_X11_marchTold_67 {Q : oQ} {K : oK} (hK : oCl tb_X11_marchTold Q K) {sh : oS} {I : Nat → Nat → Int} {L : Nat → Nat → Int64}  (k : K 68 [none, none, none, none] [vI (-1)] (sh, I, L) (0, 0)) : K 67 [none, none, none, none] [] (sh, I, L) (0, 0) := by
  refine hK.1 67 [none, none, none, none] [] (sh, I, L) (0, 0) ?_
  exact k
set_option maxRecDepth 4000 in
theorem B_X11_marchTold_68 {Q : oQ} {K : oK} (hK : oCl tb_X11_marchTold Q K) {sh : oS} {I : Nat → Nat → Int} {L : Nat → Nat → Int64} {s0 : Int} (k : Q (some (vI s0)) (sh, I, L)) : K 68 [none, none, none, none] [vI s0] (sh, I, L) (0, 0) := by
  refine hK.1 68 [none, none, none, none] [vI s0] (sh, I, L) (0, 0) ?_
  exact And.intro ⟨by decide, by decide⟩ k
set_option maxRecDepth 4000 in
theorem B_X11_marchTold_69 {Q : oQ} {K : oK} (hK : oCl tb_X11_marchTold Q K) {sh : oS} {I : Nat → Nat → Int} {L : Nat → Nat → Int64} {x2 : Int} {h3 : Nat} (n72a : inR x2) (kt : x2 < 20 → K 106 [none, none, none, none] [] (sh, I, L) (0, 0)) (kf : ¬ (x2 < 20) → K 75 [none, none, some (vI x2), some (vR h3)] [] (sh, I, L) (0, 0)) : K 69 [none, none, some (vI x2), some (vR h3)] [] (sh, I, L) (0, 0) := by
  refine hK.1 69 [none, none, some (vI x2), some (vR h3)] [] (sh, I, L) (0, 0) ?_
  refine hK.1 70 [none, none, some (vI x2), some (vR h3)] [vI x2] (sh, I, L) (0, 0) ?_
  refine hK.1 72 [none, none, some (vI x2), some (vR h3)] [vI 20, vI x2] (sh, I, L) (0, 0) ?_
  exact And.intro (And.intro n72a ⟨by decide, by decide⟩) (And.intro (fun h => hK.2 [false, false, false, false] _ _ _ _ _ (kt h)) (fun h => hK.2 [false, false, true, true] _ _ _ _ _ (kf h)))
set_option maxRecDepth 4000 in
theorem B_X11_marchTold_69n {Q : oQ} {K : oK} (hK : oCl tb_X11_marchTold Q K) {sh : oS} {I : Nat → Nat → Int} {L : Nat → Nat → Int64} {x2 : Int} (n72a : inR x2) (kt : x2 < 20 → K 106 [none, none, none, none] [] (sh, I, L) (0, 0)) (kf : ¬ (x2 < 20) → K 75 [none, none, some (vI x2), some vN] [] (sh, I, L) (0, 0)) : K 69 [none, none, some (vI x2), some vN] [] (sh, I, L) (0, 0) := by
  refine hK.1 69 [none, none, some (vI x2), some vN] [] (sh, I, L) (0, 0) ?_
  refine hK.1 70 [none, none, some (vI x2), some vN] [vI x2] (sh, I, L) (0, 0) ?_
  refine hK.1 72 [none, none, some (vI x2), some vN] [vI 20, vI x2] (sh, I, L) (0, 0) ?_
  exact And.intro (And.intro n72a ⟨by decide, by decide⟩) (And.intro (fun h => hK.2 [false, false, false, false] _ _ _ _ _ (kt h)) (fun h => hK.2 [false, false, true, true] _ _ _ _ _ (kf h)))
set_option maxRecDepth 4000 in
theorem B_X11_marchTold_75 {Q : oQ} {K : oK} (hK : oCl tb_X11_marchTold Q K) {sh : oS} {I : Nat → Nat → Int} {L : Nat → Nat → Int64} {x2 : Int} {h3 : Nat} (n78a : inR x2) (kt : 22 ≤ x2 → K 106 [none, none, none, none] [] (sh, I, L) (0, 0)) (kf : ¬ (22 ≤ x2) → K 81 [none, none, some (vI x2), some (vR h3)] [] (sh, I, L) (0, 0)) : K 75 [none, none, some (vI x2), some (vR h3)] [] (sh, I, L) (0, 0) := by
  refine hK.1 75 [none, none, some (vI x2), some (vR h3)] [] (sh, I, L) (0, 0) ?_
  refine hK.1 76 [none, none, some (vI x2), some (vR h3)] [vI x2] (sh, I, L) (0, 0) ?_
  refine hK.1 78 [none, none, some (vI x2), some (vR h3)] [vI 22, vI x2] (sh, I, L) (0, 0) ?_
  exact And.intro (And.intro n78a ⟨by decide, by decide⟩) (And.intro (fun h => hK.2 [false, false, false, false] _ _ _ _ _ (kt h)) (fun h => hK.2 [false, false, true, true] _ _ _ _ _ (kf h)))
set_option maxRecDepth 4000 in
theorem B_X11_marchTold_75n {Q : oQ} {K : oK} (hK : oCl tb_X11_marchTold Q K) {sh : oS} {I : Nat → Nat → Int} {L : Nat → Nat → Int64} {x2 : Int} (n78a : inR x2) (kt : 22 ≤ x2 → K 106 [none, none, none, none] [] (sh, I, L) (0, 0)) (kf : ¬ (22 ≤ x2) → K 81 [none, none, some (vI x2), some vN] [] (sh, I, L) (0, 0)) : K 75 [none, none, some (vI x2), some vN] [] (sh, I, L) (0, 0) := by
  refine hK.1 75 [none, none, some (vI x2), some vN] [] (sh, I, L) (0, 0) ?_
  refine hK.1 76 [none, none, some (vI x2), some vN] [vI x2] (sh, I, L) (0, 0) ?_
  refine hK.1 78 [none, none, some (vI x2), some vN] [vI 22, vI x2] (sh, I, L) (0, 0) ?_
  exact And.intro (And.intro n78a ⟨by decide, by decide⟩) (And.intro (fun h => hK.2 [false, false, false, false] _ _ _ _ _ (kt h)) (fun h => hK.2 [false, false, true, true] _ _ _ _ _ (kf h)))
set_option maxRecDepth 4000 in
theorem B_X11_marchTold_81 {Q : oQ} {K : oK} (hK : oCl tb_X11_marchTold Q K) {sh : oS} {I : Nat → Nat → Int} {L : Nat → Nat → Int64} {x2 : Int} {h3 : Nat} {h3e h3p h3t : Nat} (Ah3 : MarchAt sh h3 h3e h3p h3t) (n89a : inR (x2 - 20)) (n89b : inR (I h3 1)) (kt : I h3 1 ≤ x2 - 20 → K 104 [none, none, none, none] [] (sh, I, L) (0, 0)) (kf : ¬ (I h3 1 ≤ x2 - 20) → K 92 [none, none, some (vI x2), some (vR h3)] [] (sh, I, L) (0, 0)) : K 81 [none, none, some (vI x2), some (vR h3)] [] (sh, I, L) (0, 0) := by
  refine hK.1 81 [none, none, some (vI x2), some (vR h3)] [] (sh, I, L) (0, 0) ?_
  refine hK.1 82 [none, none, some (vI x2), some (vR h3)] [vI x2] (sh, I, L) (0, 0) ?_
  refine hK.1 84 [none, none, some (vI x2), some (vR h3)] [vI 20, vI x2] (sh, I, L) (0, 0) ?_
  refine hK.1 85 [none, none, some (vI x2), some (vR h3)] [vI (x2 - 20)] (sh, I, L) (0, 0) ?_
  refine hK.1 86 [none, none, some (vI x2), some (vR h3)] [vR h3, vI (x2 - 20)] (sh, I, L) (0, 0) ?_
  refine And.intro (mem1 Ah3.1) ?_
  refine hK.1 89 [none, none, some (vI x2), some (vR h3)] [vI (I h3 1), vI (x2 - 20)] (sh, I, L) (0, 0) ?_
  exact And.intro (And.intro n89a n89b) (And.intro (fun h => hK.2 [false, false, false, false] _ _ _ _ _ (kt h)) (fun h => hK.2 [false, false, true, true] _ _ _ _ _ (kf h)))
set_option maxRecDepth 4000 in
theorem B_X11_marchTold_92 {Q : oQ} {K : oK} (hK : oCl tb_X11_marchTold Q K) {sh : oS} {I : Nat → Nat → Int} {L : Nat → Nat → Int64} {x2 : Int} {h3 : Nat} {h3e h3p h3t : Nat} (Ah3 : MarchAt sh h3 h3e h3p h3t) (b100 : 0 ≤ x2 - 20 ∧ x2 - 20 < 2) (k : K 105 [none, none, none, none] [vI (I h3t ((x2 - 20).toNat))] (sh, I, L) (0, 0)) : K 92 [none, none, some (vI x2), some (vR h3)] [] (sh, I, L) (0, 0) := by
  refine hK.1 92 [none, none, some (vI x2), some (vR h3)] [] (sh, I, L) (0, 0) ?_
  refine hK.1 93 [none, none, some (vI x2), some (vR h3)] [vR h3] (sh, I, L) (0, 0) ?_
  refine And.intro (mem1 Ah3.1) (Exists.intro h3t (And.intro Ah3.2.2.2.1 ?_))
  refine hK.1 96 [none, none, some (vI x2), some (vR h3)] [vR h3t] (sh, I, L) (0, 0) ?_
  refine hK.1 97 [none, none, some (vI x2), some (vR h3)] [vI x2, vR h3t] (sh, I, L) (0, 0) ?_
  refine hK.1 99 [none, none, some (vI x2), some (vR h3)] [vI 20, vI x2, vR h3t] (sh, I, L) (0, 0) ?_
  refine hK.1 100 [none, none, some (vI x2), some (vR h3)] [vI (x2 - 20), vR h3t] (sh, I, L) (0, 0) ?_
  refine And.intro (And.intro (Ah3.2.2.2.2.2.2.1) (ixL (Ah3.2.2.2.2.2.2.2) b100)) ?_
  refine hK.1 101 [none, none, some (vI x2), some (vR h3)] [vI (I h3t ((x2 - 20).toNat))] (sh, I, L) (0, 0) ?_
  refine hK.2 [false, false, false, false] _ _ _ _ _ ?_
  exact k
set_option maxRecDepth 4000 in
theorem B_X11_marchTold_104 {Q : oQ} {K : oK} (hK : oCl tb_X11_marchTold Q K) {sh : oS} {I : Nat → Nat → Int} {L : Nat → Nat → Int64}  (k : K 105 [none, none, none, none] [vI (-1)] (sh, I, L) (0, 0)) : K 104 [none, none, none, none] [] (sh, I, L) (0, 0) := by
  refine hK.1 104 [none, none, none, none] [] (sh, I, L) (0, 0) ?_
  exact k
set_option maxRecDepth 4000 in
theorem B_X11_marchTold_105 {Q : oQ} {K : oK} (hK : oCl tb_X11_marchTold Q K) {sh : oS} {I : Nat → Nat → Int} {L : Nat → Nat → Int64} {s0 : Int} (k : Q (some (vI s0)) (sh, I, L)) : K 105 [none, none, none, none] [vI s0] (sh, I, L) (0, 0) := by
  refine hK.1 105 [none, none, none, none] [vI s0] (sh, I, L) (0, 0) ?_
  exact And.intro ⟨by decide, by decide⟩ k
set_option maxRecDepth 4000 in
theorem B_X11_marchTold_106 {Q : oQ} {K : oK} (hK : oCl tb_X11_marchTold Q K) {sh : oS} {I : Nat → Nat → Int} {L : Nat → Nat → Int64}  (k : Q (some (vI (-102))) (sh, I, L)) : K 106 [none, none, none, none] [] (sh, I, L) (0, 0) := by
  refine hK.1 106 [none, none, none, none] [] (sh, I, L) (0, 0) ?_
  refine hK.1 108 [none, none, none, none] [vI (-102)] (sh, I, L) (0, 0) ?_
  exact And.intro ⟨by decide, by decide⟩ k
set_option maxRecDepth 4000 in
theorem B_X11_weighed_0 {Q : oQ} {K : oK} (hK : oCl tb_X11_weighed Q K) {sh : oS} (hs : Sh sh) {I : Nat → Nat → Int} {L : Nat → Nat → Int64} {x1 : Int} {x2 : Int} {x3 : Int} {q5 : Nat} (b5 : 0 ≤ x2 ∧ x2 < 4) (r5 : sR sh 9 (x2.toNat) = some q5) (k : K 14 [some (vR 0), some (vI x1), some (vI x2), some (vI x3), some (vR q5), some (vI 0), some (vI 0), none] [] (sh, I, L) (0, 0)) : K 0 [some (vR 0), some (vI x1), some (vI x2), some (vI x3), none, none, none, none] [] (sh, I, L) (0, 0) := by
  refine hK.1 0 [some (vR 0), some (vI x1), some (vI x2), some (vI x3), none, none, none, none] [] (sh, I, L) (0, 0) ?_
  refine hK.1 1 [some (vR 0), some (vI x1), some (vI x2), some (vI x3), none, none, none, none] [vR 0] (sh, I, L) (0, 0) ?_
  refine And.intro (mem1 (sk_0 hs)) (Exists.intro 9 (And.intro (sr_0_3 hs) ?_))
  refine hK.1 4 [some (vR 0), some (vI x1), some (vI x2), some (vI x3), none, none, none, none] [vR 9] (sh, I, L) (0, 0) ?_
  refine hK.1 5 [some (vR 0), some (vI x1), some (vI x2), some (vI x3), none, none, none, none] [vI x2, vR 9] (sh, I, L) (0, 0) ?_
  refine And.intro (And.intro (sk_9 hs) (ixL (sl_9 hs) b5)) (Exists.intro q5 (And.intro r5 ?_))
  refine hK.1 6 [some (vR 0), some (vI x1), some (vI x2), some (vI x3), none, none, none, none] [vR q5] (sh, I, L) (0, 0) ?_
  refine hK.1 8 [some (vR 0), some (vI x1), some (vI x2), some (vI x3), some (vR q5), none, none, none] [] (sh, I, L) (0, 0) ?_
  refine hK.1 9 [some (vR 0), some (vI x1), some (vI x2), some (vI x3), some (vR q5), none, none, none] [vI 0] (sh, I, L) (0, 0) ?_
  refine hK.1 11 [some (vR 0), some (vI x1), some (vI x2), some (vI x3), some (vR q5), some (vI 0), none, none] [] (sh, I, L) (0, 0) ?_
  refine hK.1 12 [some (vR 0), some (vI x1), some (vI x2), some (vI x3), some (vR q5), some (vI 0), none, none] [vI 0] (sh, I, L) (0, 0) ?_
  exact k
set_option maxRecDepth 4000 in
theorem B_X11_weighed_14 {Q : oQ} {K : oK} (hK : oCl tb_X11_weighed Q K) {sh : oS} {I : Nat → Nat → Int} {L : Nat → Nat → Int64} {x1 : Int} {x2 : Int} {x3 : Int} {h4 : Nat} {x5 : Int} {x6 : Int} {h4e h4p h4t : Nat} (k : T_X6_wayOn [vR h4] (sh, I, L) (fun r mm => K 21 [some (vR 0), some (vI x1), some (vI x2), some (vI x3), some (vR h4), some (vI x5), some (vI x6), none] (r.toList ++ [vI x6]) mm (0, 0))) (Ah4 : MarchAt sh h4 h4e h4p h4t) : K 14 [some (vR 0), some (vI x1), some (vI x2), some (vI x3), some (vR h4), some (vI x5), some (vI x6), none] [] (sh, I, L) (0, 0) := by
  refine hK.1 14 [some (vR 0), some (vI x1), some (vI x2), some (vI x3), some (vR h4), some (vI x5), some (vI x6), none] [] (sh, I, L) (0, 0) ?_
  refine hK.1 16 [some (vR 0), some (vI x1), some (vI x2), some (vI x3), some (vR h4), some (vI x5), some (vI x6), none] [vI x6] (sh, I, L) (0, 0) ?_
  refine hK.1 18 [some (vR 0), some (vI x1), some (vI x2), some (vI x3), some (vR h4), some (vI x5), some (vI x6), none] [vR h4, vI x6] (sh, I, L) (0, 0) ?_
  exact And.intro ⟨Ah4.1, Nat.le_of_ble_eq_true rfl, Nat.le_of_ble_eq_true rfl, Nat.le_of_ble_eq_true rfl, Nat.le_of_ble_eq_true rfl⟩ k
set_option maxRecDepth 4000 in
theorem B_X11_weighed_21 {Q : oQ} {K : oK} (hK : oCl tb_X11_weighed Q K) {sh : oS} {I : Nat → Nat → Int} {L : Nat → Nat → Int64} {x1 : Int} {x2 : Int} {x3 : Int} {h4 : Nat} {x5 : Int} {x6 : Int} {s0 : Int} {s1 : Int} (n21a : inR s0) (n21b : inR s1) (kt : s1 < s0 → K 73 [none, none, none, none, none, some (vI x5), none, none] [] (sh, I, L) (0, 0)) (kf : ¬ (s1 < s0) → K 24 [some (vR 0), some (vI x1), some (vI x2), some (vI x3), some (vR h4), some (vI x5), some (vI x6), none] [] (sh, I, L) (0, 0)) : K 21 [some (vR 0), some (vI x1), some (vI x2), some (vI x3), some (vR h4), some (vI x5), some (vI x6), none] [vI s1, vI s0] (sh, I, L) (0, 0) := by
  refine hK.1 21 [some (vR 0), some (vI x1), some (vI x2), some (vI x3), some (vR h4), some (vI x5), some (vI x6), none] [vI s1, vI s0] (sh, I, L) (0, 0) ?_
  exact And.intro (And.intro n21a n21b) (And.intro (fun h => hK.2 [false, false, false, false, false, true, false, false] _ _ _ _ _ (kt h)) (fun h => hK.2 [true, true, true, true, true, true, true, false] _ _ _ _ _ (kf h)))
set_option maxRecDepth 4000 in
theorem B_X11_weighed_24 {Q : oQ} {K : oK} (hK : oCl tb_X11_weighed Q K) {sh : oS} {I : Nat → Nat → Int} {L : Nat → Nat → Int64} {x1 : Int} {x2 : Int} {x3 : Int} {h4 : Nat} {x5 : Int} {x6 : Int} (k : T_X11_keptAt [vI x1, vI x2, vI x6] (sh, I, L) (fun r mm => K 31 [some (vR 0), some (vI x1), some (vI x2), some (vI x3), some (vR h4), some (vI x5), some (vI x6), none] (r.toList ++ []) mm (0, 0))) : K 24 [some (vR 0), some (vI x1), some (vI x2), some (vI x3), some (vR h4), some (vI x5), some (vI x6), none] [] (sh, I, L) (0, 0) := by
  refine hK.1 24 [some (vR 0), some (vI x1), some (vI x2), some (vI x3), some (vR h4), some (vI x5), some (vI x6), none] [] (sh, I, L) (0, 0) ?_
  refine hK.1 25 [some (vR 0), some (vI x1), some (vI x2), some (vI x3), some (vR h4), some (vI x5), some (vI x6), none] [vI x1] (sh, I, L) (0, 0) ?_
  refine hK.1 26 [some (vR 0), some (vI x1), some (vI x2), some (vI x3), some (vR h4), some (vI x5), some (vI x6), none] [vI x2, vI x1] (sh, I, L) (0, 0) ?_
  refine hK.1 28 [some (vR 0), some (vI x1), some (vI x2), some (vI x3), some (vR h4), some (vI x5), some (vI x6), none] [vI x6, vI x2, vI x1] (sh, I, L) (0, 0) ?_
  exact And.intro ⟨Nat.le_of_ble_eq_true rfl, Nat.le_of_ble_eq_true rfl, Nat.le_of_ble_eq_true rfl, Nat.le_of_ble_eq_true rfl⟩ k
set_option maxRecDepth 4000 in
theorem B_X11_weighed_31 {Q : oQ} {K : oK} (hK : oCl tb_X11_weighed Q K) {sh : oS} {I : Nat → Nat → Int} {L : Nat → Nat → Int64} {x1 : Int} {x2 : Int} {x3 : Int} {h4 : Nat} {x5 : Int} {x6 : Int} {s0 : Int} {h4e h4p h4t : Nat} (k : T_X6_chancesOf [vR h4, vI x6] (sh, I, L) (fun r mm => K 42 [some (vR 0), some (vI x1), some (vI x2), some (vI x3), some (vR h4), none, some (vI x6), some (vI s0)] (r.toList ++ [vI x5]) mm (0, 0))) (Ah4 : MarchAt sh h4 h4e h4p h4t) : K 31 [some (vR 0), some (vI x1), some (vI x2), some (vI x3), some (vR h4), some (vI x5), some (vI x6), none] [vI s0] (sh, I, L) (0, 0) := by
  refine hK.1 31 [some (vR 0), some (vI x1), some (vI x2), some (vI x3), some (vR h4), some (vI x5), some (vI x6), none] [vI s0] (sh, I, L) (0, 0) ?_
  refine hK.1 33 [some (vR 0), some (vI x1), some (vI x2), some (vI x3), some (vR h4), some (vI x5), some (vI x6), some (vI s0)] [] (sh, I, L) (0, 0) ?_
  refine hK.1 35 [some (vR 0), some (vI x1), some (vI x2), some (vI x3), some (vR h4), some (vI x5), some (vI x6), some (vI s0)] [vI x5] (sh, I, L) (0, 0) ?_
  refine hK.1 37 [some (vR 0), some (vI x1), some (vI x2), some (vI x3), some (vR h4), some (vI x5), some (vI x6), some (vI s0)] [vR h4, vI x5] (sh, I, L) (0, 0) ?_
  refine hK.2 [true, true, true, true, true, false, true, true] _ _ _ _ _ ?_
  refine hK.1 39 [some (vR 0), some (vI x1), some (vI x2), some (vI x3), some (vR h4), none, some (vI x6), some (vI s0)] [vI x6, vR h4, vI x5] (sh, I, L) (0, 0) ?_
  exact And.intro ⟨Ah4.1, Nat.le_of_ble_eq_true rfl, Nat.le_of_ble_eq_true rfl, Nat.le_of_ble_eq_true rfl, Nat.le_of_ble_eq_true rfl⟩ k
set_option maxRecDepth 4000 in
theorem B_X11_weighed_42 {Q : oQ} {K : oK} (hK : oCl tb_X11_weighed Q K) {sh : oS} {I : Nat → Nat → Int} {L : Nat → Nat → Int64} {x1 : Int} {x2 : Int} {x3 : Int} {h4 : Nat} {x6 : Int} {x7 : Int} {s0 : Int} {s1 : Int} (n43 : inR x3) (kt : ¬ x3 = 0 → K 56 [some (vR 0), some (vI x1), some (vI x2), some (vI x3), some (vR h4), none, some (vI x6), some (vI x7)] [vI s1, vI s0] (sh, I, L) (0, 0)) (kf : ¬ (¬ x3 = 0) → K 46 [some (vR 0), some (vI x1), some (vI x2), some (vI x3), some (vR h4), none, some (vI x6), some (vI x7)] [vI s1, vI s0] (sh, I, L) (0, 0)) : K 42 [some (vR 0), some (vI x1), some (vI x2), some (vI x3), some (vR h4), none, some (vI x6), some (vI x7)] [vI s1, vI s0] (sh, I, L) (0, 0) := by
  refine hK.1 42 [some (vR 0), some (vI x1), some (vI x2), some (vI x3), some (vR h4), none, some (vI x6), some (vI x7)] [vI s1, vI s0] (sh, I, L) (0, 0) ?_
  refine hK.1 43 [some (vR 0), some (vI x1), some (vI x2), some (vI x3), some (vR h4), none, some (vI x6), some (vI x7)] [vI x3, vI s1, vI s0] (sh, I, L) (0, 0) ?_
  exact And.intro (n43) (And.intro (fun h => hK.2 [true, true, true, true, true, false, true, true] _ _ _ _ _ (kt h)) (fun h => hK.2 [true, true, true, true, true, false, true, true] _ _ _ _ _ (kf h)))
set_option maxRecDepth 4000 in
theorem B_X11_weighed_46 {Q : oQ} {K : oK} (hK : oCl tb_X11_weighed Q K) {sh : oS} (hs : Sh sh) {I : Nat → Nat → Int} {L : Nat → Nat → Int64} {x1 : Int} {x2 : Int} {x3 : Int} {h4 : Nat} {x6 : Int} {x7 : Int} {s0 : Int} {s1 : Int} (b52 : 0 ≤ x7 ∧ x7 < 128) (k : K 63 [some (vR 0), some (vI x1), some (vI x2), some (vI x3), some (vR h4), none, some (vI x6), none] [vI (I 41 (x7.toNat)), vI s1, vI s0] (sh, I, L) (0, 0)) : K 46 [some (vR 0), some (vI x1), some (vI x2), some (vI x3), some (vR h4), none, some (vI x6), some (vI x7)] [vI s1, vI s0] (sh, I, L) (0, 0) := by
  refine hK.1 46 [some (vR 0), some (vI x1), some (vI x2), some (vI x3), some (vR h4), none, some (vI x6), some (vI x7)] [vI s1, vI s0] (sh, I, L) (0, 0) ?_
  refine hK.1 47 [some (vR 0), some (vI x1), some (vI x2), some (vI x3), some (vR h4), none, some (vI x6), some (vI x7)] [vR 0, vI s1, vI s0] (sh, I, L) (0, 0) ?_
  refine And.intro (mem1 (sk_0 hs)) (Exists.intro 41 (And.intro (sr_0_15 hs) ?_))
  refine hK.1 50 [some (vR 0), some (vI x1), some (vI x2), some (vI x3), some (vR h4), none, some (vI x6), some (vI x7)] [vR 41, vI s1, vI s0] (sh, I, L) (0, 0) ?_
  refine hK.1 52 [some (vR 0), some (vI x1), some (vI x2), some (vI x3), some (vR h4), none, some (vI x6), some (vI x7)] [vI x7, vR 41, vI s1, vI s0] (sh, I, L) (0, 0) ?_
  refine And.intro (And.intro (sk_41 hs) (ixL (sl_41 hs) b52)) ?_
  refine hK.1 53 [some (vR 0), some (vI x1), some (vI x2), some (vI x3), some (vR h4), none, some (vI x6), some (vI x7)] [vI (I 41 (x7.toNat)), vI s1, vI s0] (sh, I, L) (0, 0) ?_
  refine hK.2 [true, true, true, true, true, false, true, false] _ _ _ _ _ ?_
  exact k
set_option maxRecDepth 4000 in
theorem B_X11_weighed_56 {Q : oQ} {K : oK} (hK : oCl tb_X11_weighed Q K) {sh : oS} (hs : Sh sh) {I : Nat → Nat → Int} {L : Nat → Nat → Int64} {x1 : Int} {x2 : Int} {x3 : Int} {h4 : Nat} {x6 : Int} {x7 : Int} {s0 : Int} {s1 : Int} (b62 : 0 ≤ x7 ∧ x7 < 128) (k : K 63 [some (vR 0), some (vI x1), some (vI x2), some (vI x3), some (vR h4), none, some (vI x6), none] [vI (I 42 (x7.toNat)), vI s1, vI s0] (sh, I, L) (0, 0)) : K 56 [some (vR 0), some (vI x1), some (vI x2), some (vI x3), some (vR h4), none, some (vI x6), some (vI x7)] [vI s1, vI s0] (sh, I, L) (0, 0) := by
  refine hK.1 56 [some (vR 0), some (vI x1), some (vI x2), some (vI x3), some (vR h4), none, some (vI x6), some (vI x7)] [vI s1, vI s0] (sh, I, L) (0, 0) ?_
  refine hK.1 57 [some (vR 0), some (vI x1), some (vI x2), some (vI x3), some (vR h4), none, some (vI x6), some (vI x7)] [vR 0, vI s1, vI s0] (sh, I, L) (0, 0) ?_
  refine And.intro (mem1 (sk_0 hs)) (Exists.intro 42 (And.intro (sr_0_16 hs) ?_))
  refine hK.1 60 [some (vR 0), some (vI x1), some (vI x2), some (vI x3), some (vR h4), none, some (vI x6), some (vI x7)] [vR 42, vI s1, vI s0] (sh, I, L) (0, 0) ?_
  refine hK.1 62 [some (vR 0), some (vI x1), some (vI x2), some (vI x3), some (vR h4), none, some (vI x6), some (vI x7)] [vI x7, vR 42, vI s1, vI s0] (sh, I, L) (0, 0) ?_
  refine And.intro (And.intro (sk_42 hs) (ixL (sl_42 hs) b62)) ?_
  refine hK.2 [true, true, true, true, true, false, true, false] _ _ _ _ _ ?_
  exact k
set_option maxRecDepth 4000 in
theorem B_X11_weighed_63 {Q : oQ} {K : oK} (hK : oCl tb_X11_weighed Q K) {sh : oS} {I : Nat → Nat → Int} {L : Nat → Nat → Int64} {x1 : Int} {x2 : Int} {x3 : Int} {h4 : Nat} {x6 : Int} {s0 : Int} {s1 : Int} {s2 : Int} (k : K 14 [some (vR 0), some (vI x1), some (vI x2), some (vI x3), some (vR h4), some (vI (s0 + (s1 * s2))), some (vI (x6 + 1)), none] [] (sh, I, L) (0, 0)) : K 63 [some (vR 0), some (vI x1), some (vI x2), some (vI x3), some (vR h4), none, some (vI x6), none] [vI s2, vI s1, vI s0] (sh, I, L) (0, 0) := by
  refine hK.1 63 [some (vR 0), some (vI x1), some (vI x2), some (vI x3), some (vR h4), none, some (vI x6), none] [vI s2, vI s1, vI s0] (sh, I, L) (0, 0) ?_
  refine hK.1 64 [some (vR 0), some (vI x1), some (vI x2), some (vI x3), some (vR h4), none, some (vI x6), none] [vI (s1 * s2), vI s0] (sh, I, L) (0, 0) ?_
  refine hK.1 65 [some (vR 0), some (vI x1), some (vI x2), some (vI x3), some (vR h4), none, some (vI x6), none] [vI (s0 + (s1 * s2))] (sh, I, L) (0, 0) ?_
  refine hK.1 67 [some (vR 0), some (vI x1), some (vI x2), some (vI x3), some (vR h4), some (vI (s0 + (s1 * s2))), some (vI x6), none] [] (sh, I, L) (0, 0) ?_
  refine hK.1 70 [some (vR 0), some (vI x1), some (vI x2), some (vI x3), some (vR h4), some (vI (s0 + (s1 * s2))), some (vI (x6 + 1)), none] [] (sh, I, L) (0, 0) ?_
  exact k
set_option maxRecDepth 4000 in
theorem B_X11_weighed_73 {Q : oQ} {K : oK} (hK : oCl tb_X11_weighed Q K) {sh : oS} {I : Nat → Nat → Int} {L : Nat → Nat → Int64} {x5 : Int} (k : Q (some (vI x5)) (sh, I, L)) : K 73 [none, none, none, none, none, some (vI x5), none, none] [] (sh, I, L) (0, 0) := by
  refine hK.1 73 [none, none, none, none, none, some (vI x5), none, none] [] (sh, I, L) (0, 0) ?_
  refine hK.1 75 [none, none, none, none, none, some (vI x5), none, none] [vI x5] (sh, I, L) (0, 0) ?_
  exact And.intro ⟨by decide, by decide⟩ k
set_option maxRecDepth 4000 in
theorem B_X11_mean_0 {Q : oQ} {K : oK} (hK : oCl tb_X11_mean Q K) {sh : oS} (hs : Sh sh) {I : Nat → Nat → Int} {L : Nat → Nat → Int64} {x1 : Int} {x2 : Int} {x3 : Int} {x4 : Int} (k : T_X11_refusal [vR 0, vI x1, vI x2] (sh, I, L) (fun r mm => K 6 [some (vR 0), some (vI x1), some (vI x2), some (vI x3), some (vI x4), none, none, none, none, none] (r.toList ++ []) mm (0, 0))) : K 0 [some (vR 0), some (vI x1), some (vI x2), some (vI x3), some (vI x4), none, none, none, none, none] [] (sh, I, L) (0, 0) := by
  refine hK.1 0 [some (vR 0), some (vI x1), some (vI x2), some (vI x3), some (vI x4), none, none, none, none, none] [] (sh, I, L) (0, 0) ?_
  refine hK.1 1 [some (vR 0), some (vI x1), some (vI x2), some (vI x3), some (vI x4), none, none, none, none, none] [vR 0] (sh, I, L) (0, 0) ?_
  refine hK.1 2 [some (vR 0), some (vI x1), some (vI x2), some (vI x3), some (vI x4), none, none, none, none, none] [vI x1, vR 0] (sh, I, L) (0, 0) ?_
  refine hK.1 3 [some (vR 0), some (vI x1), some (vI x2), some (vI x3), some (vI x4), none, none, none, none, none] [vI x2, vI x1, vR 0] (sh, I, L) (0, 0) ?_
  exact And.intro ⟨(sk_0 hs), Nat.le_of_ble_eq_true rfl, Nat.le_of_ble_eq_true rfl, Nat.le_of_ble_eq_true rfl, Nat.le_of_ble_eq_true rfl⟩ k
set_option maxRecDepth 4000 in
theorem B_X11_mean_6 {Q : oQ} {K : oK} (hK : oCl tb_X11_mean Q K) {sh : oS} {I : Nat → Nat → Int} {L : Nat → Nat → Int64} {x1 : Int} {x2 : Int} {x3 : Int} {x4 : Int} {s0 : Int} (n10 : inR s0) (kt : s0 = 0 → K 16 [some (vR 0), some (vI x1), some (vI x2), some (vI x3), some (vI x4), none, none, none, none, none] [] (sh, I, L) (0, 0)) (kf : ¬ (s0 = 0) → K 13 [none, none, none, none, none, some (vI s0), none, none, none, none] [] (sh, I, L) (0, 0)) : K 6 [some (vR 0), some (vI x1), some (vI x2), some (vI x3), some (vI x4), none, none, none, none, none] [vI s0] (sh, I, L) (0, 0) := by
  refine hK.1 6 [some (vR 0), some (vI x1), some (vI x2), some (vI x3), some (vI x4), none, none, none, none, none] [vI s0] (sh, I, L) (0, 0) ?_
  refine hK.1 8 [some (vR 0), some (vI x1), some (vI x2), some (vI x3), some (vI x4), some (vI s0), none, none, none, none] [] (sh, I, L) (0, 0) ?_
  refine hK.1 10 [some (vR 0), some (vI x1), some (vI x2), some (vI x3), some (vI x4), some (vI s0), none, none, none, none] [vI s0] (sh, I, L) (0, 0) ?_
  exact And.intro (n10) (And.intro (fun h => hK.2 [true, true, true, true, true, false, false, false, false, false] _ _ _ _ _ (kt h)) (fun h => hK.2 [false, false, false, false, false, true, false, false, false, false] _ _ _ _ _ (kf h)))
set_option maxRecDepth 4000 in
theorem B_X11_mean_13 {Q : oQ} {K : oK} (hK : oCl tb_X11_mean Q K) {sh : oS} {I : Nat → Nat → Int} {L : Nat → Nat → Int64} {x5 : Int} (k : Q (some (vI x5)) (sh, I, L)) : K 13 [none, none, none, none, none, some (vI x5), none, none, none, none] [] (sh, I, L) (0, 0) := by
  refine hK.1 13 [none, none, none, none, none, some (vI x5), none, none, none, none] [] (sh, I, L) (0, 0) ?_
  refine hK.1 15 [none, none, none, none, none, some (vI x5), none, none, none, none] [vI x5] (sh, I, L) (0, 0) ?_
  exact And.intro ⟨by decide, by decide⟩ k
set_option maxRecDepth 4000 in
theorem B_X11_mean_16 {Q : oQ} {K : oK} (hK : oCl tb_X11_mean Q K) {sh : oS} {I : Nat → Nat → Int} {L : Nat → Nat → Int64} {x1 : Int} {x2 : Int} {x3 : Int} {x4 : Int} (n17 : inR x3) (kt : x3 < 0 → K 36 [none, none, none, none, none, none, none, none, none, none] [] (sh, I, L) (0, 0)) (kf : ¬ (x3 < 0) → K 20 [some (vR 0), some (vI x1), some (vI x2), some (vI x3), some (vI x4), none, none, none, none, none] [] (sh, I, L) (0, 0)) : K 16 [some (vR 0), some (vI x1), some (vI x2), some (vI x3), some (vI x4), none, none, none, none, none] [] (sh, I, L) (0, 0) := by
  refine hK.1 16 [some (vR 0), some (vI x1), some (vI x2), some (vI x3), some (vI x4), none, none, none, none, none] [] (sh, I, L) (0, 0) ?_
  refine hK.1 17 [some (vR 0), some (vI x1), some (vI x2), some (vI x3), some (vI x4), none, none, none, none, none] [vI x3] (sh, I, L) (0, 0) ?_
  exact And.intro (n17) (And.intro (fun h => hK.2 [false, false, false, false, false, false, false, false, false, false] _ _ _ _ _ (kt h)) (fun h => hK.2 [true, true, true, true, true, false, false, false, false, false] _ _ _ _ _ (kf h)))
set_option maxRecDepth 4000 in
theorem B_X11_mean_20 {Q : oQ} {K : oK} (hK : oCl tb_X11_mean Q K) {sh : oS} {I : Nat → Nat → Int} {L : Nat → Nat → Int64} {x1 : Int} {x2 : Int} {x3 : Int} {x4 : Int} (n22a : inR x3) (kt : 1 < x3 → K 36 [none, none, none, none, none, none, none, none, none, none] [] (sh, I, L) (0, 0)) (kf : ¬ (1 < x3) → K 25 [some (vR 0), some (vI x1), some (vI x2), some (vI x3), some (vI x4), none, none, none, none, none] [] (sh, I, L) (0, 0)) : K 20 [some (vR 0), some (vI x1), some (vI x2), some (vI x3), some (vI x4), none, none, none, none, none] [] (sh, I, L) (0, 0) := by
  refine hK.1 20 [some (vR 0), some (vI x1), some (vI x2), some (vI x3), some (vI x4), none, none, none, none, none] [] (sh, I, L) (0, 0) ?_
  refine hK.1 21 [some (vR 0), some (vI x1), some (vI x2), some (vI x3), some (vI x4), none, none, none, none, none] [vI x3] (sh, I, L) (0, 0) ?_
  refine hK.1 22 [some (vR 0), some (vI x1), some (vI x2), some (vI x3), some (vI x4), none, none, none, none, none] [vI 1, vI x3] (sh, I, L) (0, 0) ?_
  exact And.intro (And.intro n22a ⟨by decide, by decide⟩) (And.intro (fun h => hK.2 [false, false, false, false, false, false, false, false, false, false] _ _ _ _ _ (kt h)) (fun h => hK.2 [true, true, true, true, true, false, false, false, false, false] _ _ _ _ _ (kf h)))
set_option maxRecDepth 4000 in
theorem B_X11_mean_25 {Q : oQ} {K : oK} (hK : oCl tb_X11_mean Q K) {sh : oS} {I : Nat → Nat → Int} {L : Nat → Nat → Int64} {x1 : Int} {x2 : Int} {x3 : Int} {x4 : Int} (n27 : inR x4) (kt : x4 < 0 → K 36 [none, none, none, none, none, none, none, none, none, none] [] (sh, I, L) (0, 0)) (kf : ¬ (x4 < 0) → K 30 [some (vR 0), some (vI x1), some (vI x2), some (vI x3), some (vI x4), none, none, none, none, none] [] (sh, I, L) (0, 0)) : K 25 [some (vR 0), some (vI x1), some (vI x2), some (vI x3), some (vI x4), none, none, none, none, none] [] (sh, I, L) (0, 0) := by
  refine hK.1 25 [some (vR 0), some (vI x1), some (vI x2), some (vI x3), some (vI x4), none, none, none, none, none] [] (sh, I, L) (0, 0) ?_
  refine hK.1 27 [some (vR 0), some (vI x1), some (vI x2), some (vI x3), some (vI x4), none, none, none, none, none] [vI x4] (sh, I, L) (0, 0) ?_
  exact And.intro (n27) (And.intro (fun h => hK.2 [false, false, false, false, false, false, false, false, false, false] _ _ _ _ _ (kt h)) (fun h => hK.2 [true, true, true, true, true, false, false, false, false, false] _ _ _ _ _ (kf h)))
set_option maxRecDepth 4000 in
theorem B_X11_mean_30 {Q : oQ} {K : oK} (hK : oCl tb_X11_mean Q K) {sh : oS} {I : Nat → Nat → Int} {L : Nat → Nat → Int64} {x1 : Int} {x2 : Int} {x3 : Int} {x4 : Int} (n33a : inR x4) (kt : x4 ≤ 1 → K 39 [some (vR 0), some (vI x1), some (vI x2), some (vI x3), some (vI x4), none, none, none, none, none] [] (sh, I, L) (0, 0)) (kf : ¬ (x4 ≤ 1) → K 36 [none, none, none, none, none, none, none, none, none, none] [] (sh, I, L) (0, 0)) : K 30 [some (vR 0), some (vI x1), some (vI x2), some (vI x3), some (vI x4), none, none, none, none, none] [] (sh, I, L) (0, 0) := by
  refine hK.1 30 [some (vR 0), some (vI x1), some (vI x2), some (vI x3), some (vI x4), none, none, none, none, none] [] (sh, I, L) (0, 0) ?_
  refine hK.1 32 [some (vR 0), some (vI x1), some (vI x2), some (vI x3), some (vI x4), none, none, none, none, none] [vI x4] (sh, I, L) (0, 0) ?_
  refine hK.1 33 [some (vR 0), some (vI x1), some (vI x2), some (vI x3), some (vI x4), none, none, none, none, none] [vI 1, vI x4] (sh, I, L) (0, 0) ?_
  exact And.intro (And.intro n33a ⟨by decide, by decide⟩) (And.intro (fun h => hK.2 [true, true, true, true, true, false, false, false, false, false] _ _ _ _ _ (kt h)) (fun h => hK.2 [false, false, false, false, false, false, false, false, false, false] _ _ _ _ _ (kf h)))
set_option maxRecDepth 4000 in
theorem B_X11_mean_36 {Q : oQ} {K : oK} (hK : oCl tb_X11_mean Q K) {sh : oS} {I : Nat → Nat → Int} {L : Nat → Nat → Int64}  (k : Q (some (vI (-102))) (sh, I, L)) : K 36 [none, none, none, none, none, none, none, none, none, none] [] (sh, I, L) (0, 0) := by
  refine hK.1 36 [none, none, none, none, none, none, none, none, none, none] [] (sh, I, L) (0, 0) ?_
  refine hK.1 38 [none, none, none, none, none, none, none, none, none, none] [vI (-102)] (sh, I, L) (0, 0) ?_
  exact And.intro ⟨by decide, by decide⟩ k
set_option maxRecDepth 4000 in
theorem B_X11_mean_39 {Q : oQ} {K : oK} (hK : oCl tb_X11_mean Q K) {sh : oS} (hs : Sh sh) {I : Nat → Nat → Int} {L : Nat → Nat → Int64} {x1 : Int} {x2 : Int} {x3 : Int} {x4 : Int} {q44 : Nat} (b44 : 0 ≤ x2 ∧ x2 < 4) (r44 : sR sh 9 (x2.toNat) = some q44) (k : K 50 [some (vR 0), some (vI x1), some (vI x2), some (vI x3), some (vI x4), none, some (vR q44), some (vI 0), none, none] [] (sh, I, L) (0, 0)) : K 39 [some (vR 0), some (vI x1), some (vI x2), some (vI x3), some (vI x4), none, none, none, none, none] [] (sh, I, L) (0, 0) := by
  refine hK.1 39 [some (vR 0), some (vI x1), some (vI x2), some (vI x3), some (vI x4), none, none, none, none, none] [] (sh, I, L) (0, 0) ?_
  refine hK.1 40 [some (vR 0), some (vI x1), some (vI x2), some (vI x3), some (vI x4), none, none, none, none, none] [vR 0] (sh, I, L) (0, 0) ?_
  refine And.intro (mem1 (sk_0 hs)) (Exists.intro 9 (And.intro (sr_0_3 hs) ?_))
  refine hK.1 43 [some (vR 0), some (vI x1), some (vI x2), some (vI x3), some (vI x4), none, none, none, none, none] [vR 9] (sh, I, L) (0, 0) ?_
  refine hK.1 44 [some (vR 0), some (vI x1), some (vI x2), some (vI x3), some (vI x4), none, none, none, none, none] [vI x2, vR 9] (sh, I, L) (0, 0) ?_
  refine And.intro (And.intro (sk_9 hs) (ixL (sl_9 hs) b44)) (Exists.intro q44 (And.intro r44 ?_))
  refine hK.1 45 [some (vR 0), some (vI x1), some (vI x2), some (vI x3), some (vI x4), none, none, none, none, none] [vR q44] (sh, I, L) (0, 0) ?_
  refine hK.1 47 [some (vR 0), some (vI x1), some (vI x2), some (vI x3), some (vI x4), none, some (vR q44), none, none, none] [] (sh, I, L) (0, 0) ?_
  refine hK.1 48 [some (vR 0), some (vI x1), some (vI x2), some (vI x3), some (vI x4), none, some (vR q44), none, none, none] [vI 0] (sh, I, L) (0, 0) ?_
  exact k
set_option maxRecDepth 4000 in
theorem B_X11_mean_50 {Q : oQ} {K : oK} (hK : oCl tb_X11_mean Q K) {sh : oS} {I : Nat → Nat → Int} {L : Nat → Nat → Int64} {x1 : Int} {x2 : Int} {x3 : Int} {x4 : Int} {h6 : Nat} {x7 : Int} {h6e h6p h6t : Nat} (k : T_X6_wayOn [vR h6] (sh, I, L) (fun r mm => K 57 [some (vR 0), some (vI x1), some (vI x2), some (vI x3), some (vI x4), none, some (vR h6), some (vI x7), none, none] (r.toList ++ [vI x7]) mm (0, 0))) (Ah6 : MarchAt sh h6 h6e h6p h6t) : K 50 [some (vR 0), some (vI x1), some (vI x2), some (vI x3), some (vI x4), none, some (vR h6), some (vI x7), none, none] [] (sh, I, L) (0, 0) := by
  refine hK.1 50 [some (vR 0), some (vI x1), some (vI x2), some (vI x3), some (vI x4), none, some (vR h6), some (vI x7), none, none] [] (sh, I, L) (0, 0) ?_
  refine hK.1 52 [some (vR 0), some (vI x1), some (vI x2), some (vI x3), some (vI x4), none, some (vR h6), some (vI x7), none, none] [vI x7] (sh, I, L) (0, 0) ?_
  refine hK.1 54 [some (vR 0), some (vI x1), some (vI x2), some (vI x3), some (vI x4), none, some (vR h6), some (vI x7), none, none] [vR h6, vI x7] (sh, I, L) (0, 0) ?_
  exact And.intro ⟨Ah6.1, Nat.le_of_ble_eq_true rfl, Nat.le_of_ble_eq_true rfl, Nat.le_of_ble_eq_true rfl, Nat.le_of_ble_eq_true rfl⟩ k
set_option maxRecDepth 4000 in
theorem B_X11_mean_57 {Q : oQ} {K : oK} (hK : oCl tb_X11_mean Q K) {sh : oS} {I : Nat → Nat → Int} {L : Nat → Nat → Int64} {x1 : Int} {x2 : Int} {x3 : Int} {x4 : Int} {h6 : Nat} {x7 : Int} {s0 : Int} {s1 : Int} (n57a : inR s0) (n57b : inR s1) (kt : s1 < s0 → K 75 [some (vR 0), some (vI x1), some (vI x2), some (vI x3), some (vI x4), none, some (vR h6), none, none, none] [] (sh, I, L) (0, 0)) (kf : ¬ (s1 < s0) → K 60 [some (vR 0), some (vI x1), some (vI x2), some (vI x3), some (vI x4), none, some (vR h6), some (vI x7), none, none] [] (sh, I, L) (0, 0)) : K 57 [some (vR 0), some (vI x1), some (vI x2), some (vI x3), some (vI x4), none, some (vR h6), some (vI x7), none, none] [vI s1, vI s0] (sh, I, L) (0, 0) := by
  refine hK.1 57 [some (vR 0), some (vI x1), some (vI x2), some (vI x3), some (vI x4), none, some (vR h6), some (vI x7), none, none] [vI s1, vI s0] (sh, I, L) (0, 0) ?_
  exact And.intro (And.intro n57a n57b) (And.intro (fun h => hK.2 [true, true, true, true, true, false, true, false, false, false] _ _ _ _ _ (kt h)) (fun h => hK.2 [true, true, true, true, true, false, true, true, false, false] _ _ _ _ _ (kf h)))
set_option maxRecDepth 4000 in
theorem B_X11_mean_60 {Q : oQ} {K : oK} (hK : oCl tb_X11_mean Q K) {sh : oS} (hs : Sh sh) {I : Nat → Nat → Int} {L : Nat → Nat → Int64} {x1 : Int} {x2 : Int} {x3 : Int} {x4 : Int} {h6 : Nat} {x7 : Int} (k : T_X11_solved [vR 0, vI x1, vI x2, vI x7] (sh, I, L) (fun r mm => K 68 [some (vR 0), some (vI x1), some (vI x2), some (vI x3), some (vI x4), none, some (vR h6), some (vI x7), none, none] (r.toList ++ []) mm (0, 0))) : K 60 [some (vR 0), some (vI x1), some (vI x2), some (vI x3), some (vI x4), none, some (vR h6), some (vI x7), none, none] [] (sh, I, L) (0, 0) := by
  refine hK.1 60 [some (vR 0), some (vI x1), some (vI x2), some (vI x3), some (vI x4), none, some (vR h6), some (vI x7), none, none] [] (sh, I, L) (0, 0) ?_
  refine hK.1 61 [some (vR 0), some (vI x1), some (vI x2), some (vI x3), some (vI x4), none, some (vR h6), some (vI x7), none, none] [vR 0] (sh, I, L) (0, 0) ?_
  refine hK.1 62 [some (vR 0), some (vI x1), some (vI x2), some (vI x3), some (vI x4), none, some (vR h6), some (vI x7), none, none] [vI x1, vR 0] (sh, I, L) (0, 0) ?_
  refine hK.1 63 [some (vR 0), some (vI x1), some (vI x2), some (vI x3), some (vI x4), none, some (vR h6), some (vI x7), none, none] [vI x2, vI x1, vR 0] (sh, I, L) (0, 0) ?_
  refine hK.1 65 [some (vR 0), some (vI x1), some (vI x2), some (vI x3), some (vI x4), none, some (vR h6), some (vI x7), none, none] [vI x7, vI x2, vI x1, vR 0] (sh, I, L) (0, 0) ?_
  exact And.intro ⟨(sk_0 hs), Nat.le_of_ble_eq_true rfl, Nat.le_of_ble_eq_true rfl, Nat.le_of_ble_eq_true rfl, Nat.le_of_ble_eq_true rfl⟩ k
set_option maxRecDepth 4000 in
theorem B_X11_mean_68 {Q : oQ} {K : oK} (hK : oCl tb_X11_mean Q K) {sh : oS} {I : Nat → Nat → Int} {L : Nat → Nat → Int64} {x1 : Int} {x2 : Int} {x3 : Int} {x4 : Int} {h6 : Nat} {x7 : Int} {s0 : Int} (k : K 50 [some (vR 0), some (vI x1), some (vI x2), some (vI x3), some (vI x4), none, some (vR h6), some (vI (x7 + 1)), none, none] [] (sh, I, L) (0, 0)) : K 68 [some (vR 0), some (vI x1), some (vI x2), some (vI x3), some (vI x4), none, some (vR h6), some (vI x7), none, none] [vI s0] (sh, I, L) (0, 0) := by
  refine hK.1 68 [some (vR 0), some (vI x1), some (vI x2), some (vI x3), some (vI x4), none, some (vR h6), some (vI x7), none, none] [vI s0] (sh, I, L) (0, 0) ?_
  refine hK.1 69 [some (vR 0), some (vI x1), some (vI x2), some (vI x3), some (vI x4), none, some (vR h6), some (vI x7), none, none] [] (sh, I, L) (0, 0) ?_
  refine hK.1 72 [some (vR 0), some (vI x1), some (vI x2), some (vI x3), some (vI x4), none, some (vR h6), some (vI (x7 + 1)), none, none] [] (sh, I, L) (0, 0) ?_
  exact k
set_option maxRecDepth 4000 in
theorem B_X11_mean_75 {Q : oQ} {K : oK} (hK : oCl tb_X11_mean Q K) {sh : oS} (hs : Sh sh) {I : Nat → Nat → Int} {L : Nat → Nat → Int64} {x1 : Int} {x2 : Int} {x3 : Int} {x4 : Int} {h6 : Nat} (k : T_X11_weighed [vR 0, vI x1, vI x2, vI x3] (sh, I, L) (fun r mm => K 82 [none, none, none, none, some (vI x4), none, some (vR h6), none, none, none] (r.toList ++ []) mm (0, 0))) : K 75 [some (vR 0), some (vI x1), some (vI x2), some (vI x3), some (vI x4), none, some (vR h6), none, none, none] [] (sh, I, L) (0, 0) := by
  refine hK.1 75 [some (vR 0), some (vI x1), some (vI x2), some (vI x3), some (vI x4), none, some (vR h6), none, none, none] [] (sh, I, L) (0, 0) ?_
  refine hK.1 76 [some (vR 0), some (vI x1), some (vI x2), some (vI x3), some (vI x4), none, some (vR h6), none, none, none] [vR 0] (sh, I, L) (0, 0) ?_
  refine hK.1 77 [some (vR 0), some (vI x1), some (vI x2), some (vI x3), some (vI x4), none, some (vR h6), none, none, none] [vI x1, vR 0] (sh, I, L) (0, 0) ?_
  refine hK.1 78 [some (vR 0), some (vI x1), some (vI x2), some (vI x3), some (vI x4), none, some (vR h6), none, none, none] [vI x2, vI x1, vR 0] (sh, I, L) (0, 0) ?_
  refine hK.2 [false, false, false, false, true, false, true, false, false, false] _ _ _ _ _ ?_
  refine hK.1 79 [none, none, none, none, some (vI x4), none, some (vR h6), none, none, none] [vI x3, vI x2, vI x1, vR 0] (sh, I, L) (0, 0) ?_
  exact And.intro ⟨(sk_0 hs), Nat.le_of_ble_eq_true rfl, Nat.le_of_ble_eq_true rfl, Nat.le_of_ble_eq_true rfl, Nat.le_of_ble_eq_true rfl⟩ k
set_option maxRecDepth 4000 in
theorem B_X11_mean_82 {Q : oQ} {K : oK} (hK : oCl tb_X11_mean Q K) {sh : oS} {I : Nat → Nat → Int} {L : Nat → Nat → Int64} {x4 : Int} {h6 : Nat} {s0 : Int} {h6e h6p h6t : Nat} (k : T_X6_allChances [vR h6] (sh, I, L) (fun r mm => K 89 [none, none, none, none, some (vI x4), none, none, some (vI s0), none, none] (r.toList ++ []) mm (0, 0))) (Ah6 : MarchAt sh h6 h6e h6p h6t) : K 82 [none, none, none, none, some (vI x4), none, some (vR h6), none, none, none] [vI s0] (sh, I, L) (0, 0) := by
  refine hK.1 82 [none, none, none, none, some (vI x4), none, some (vR h6), none, none, none] [vI s0] (sh, I, L) (0, 0) ?_
  refine hK.1 84 [none, none, none, none, some (vI x4), none, some (vR h6), some (vI s0), none, none] [] (sh, I, L) (0, 0) ?_
  refine hK.2 [false, false, false, false, true, false, false, true, false, false] _ _ _ _ _ ?_
  refine hK.1 86 [none, none, none, none, some (vI x4), none, none, some (vI s0), none, none] [vR h6] (sh, I, L) (0, 0) ?_
  exact And.intro ⟨Ah6.1, Nat.le_of_ble_eq_true rfl, Nat.le_of_ble_eq_true rfl, Nat.le_of_ble_eq_true rfl, Nat.le_of_ble_eq_true rfl⟩ k
set_option maxRecDepth 4000 in
theorem B_X11_mean_89 {Q : oQ} {K : oK} (hK : oCl tb_X11_mean Q K) {sh : oS} {I : Nat → Nat → Int} {L : Nat → Nat → Int64} {x4 : Int} {x7 : Int} {s0 : Int} (k : T_X11_commonDivisor [vI x7, vI s0] (sh, I, L) (fun r mm => K 98 [none, none, none, none, some (vI x4), none, none, some (vI x7), some (vI s0), none] (r.toList ++ []) mm (0, 0))) : K 89 [none, none, none, none, some (vI x4), none, none, some (vI x7), none, none] [vI s0] (sh, I, L) (0, 0) := by
  refine hK.1 89 [none, none, none, none, some (vI x4), none, none, some (vI x7), none, none] [vI s0] (sh, I, L) (0, 0) ?_
  refine hK.1 91 [none, none, none, none, some (vI x4), none, none, some (vI x7), some (vI s0), none] [] (sh, I, L) (0, 0) ?_
  refine hK.1 93 [none, none, none, none, some (vI x4), none, none, some (vI x7), some (vI s0), none] [vI x7] (sh, I, L) (0, 0) ?_
  refine hK.1 95 [none, none, none, none, some (vI x4), none, none, some (vI x7), some (vI s0), none] [vI s0, vI x7] (sh, I, L) (0, 0) ?_
  exact And.intro ⟨Nat.le_of_ble_eq_true rfl, Nat.le_of_ble_eq_true rfl, Nat.le_of_ble_eq_true rfl, Nat.le_of_ble_eq_true rfl⟩ k
set_option maxRecDepth 4000 in
theorem B_X11_mean_98 {Q : oQ} {K : oK} (hK : oCl tb_X11_mean Q K) {sh : oS} {I : Nat → Nat → Int} {L : Nat → Nat → Int64} {x4 : Int} {x7 : Int} {x8 : Int} {s0 : Int} (n102 : inR s0) (kt : ¬ s0 = 0 → K 107 [none, none, none, none, some (vI x4), none, none, some (vI x7), some (vI x8), some (vI s0)] [] (sh, I, L) (0, 0)) (kf : ¬ (¬ s0 = 0) → K 105 [none, none, none, none, none, none, none, none, none, none] [] (sh, I, L) (0, 0)) : K 98 [none, none, none, none, some (vI x4), none, none, some (vI x7), some (vI x8), none] [vI s0] (sh, I, L) (0, 0) := by
  refine hK.1 98 [none, none, none, none, some (vI x4), none, none, some (vI x7), some (vI x8), none] [vI s0] (sh, I, L) (0, 0) ?_
  refine hK.1 100 [none, none, none, none, some (vI x4), none, none, some (vI x7), some (vI x8), some (vI s0)] [] (sh, I, L) (0, 0) ?_
  refine hK.1 102 [none, none, none, none, some (vI x4), none, none, some (vI x7), some (vI x8), some (vI s0)] [vI s0] (sh, I, L) (0, 0) ?_
  exact And.intro (n102) (And.intro (fun h => hK.2 [false, false, false, false, true, false, false, true, true, true] _ _ _ _ _ (kt h)) (fun h => hK.2 [false, false, false, false, false, false, false, false, false, false] _ _ _ _ _ (kf h)))
set_option maxRecDepth 4000 in
theorem B_X11_mean_105 {Q : oQ} {K : oK} (hK : oCl tb_X11_mean Q K) {sh : oS} {I : Nat → Nat → Int} {L : Nat → Nat → Int64}  (k : Q (some (vI 0)) (sh, I, L)) : K 105 [none, none, none, none, none, none, none, none, none, none] [] (sh, I, L) (0, 0) := by
  refine hK.1 105 [none, none, none, none, none, none, none, none, none, none] [] (sh, I, L) (0, 0) ?_
  refine hK.1 106 [none, none, none, none, none, none, none, none, none, none] [vI 0] (sh, I, L) (0, 0) ?_
  exact And.intro ⟨by decide, by decide⟩ k
set_option maxRecDepth 4000 in
theorem B_X11_mean_107 {Q : oQ} {K : oK} (hK : oCl tb_X11_mean Q K) {sh : oS} {I : Nat → Nat → Int} {L : Nat → Nat → Int64} {x4 : Int} {x7 : Int} {x8 : Int} {x9 : Int} (n109 : inR x4) (kt : ¬ x4 = 0 → K 117 [none, none, none, none, none, none, none, none, some (vI x8), some (vI x9)] [] (sh, I, L) (0, 0)) (kf : ¬ (¬ x4 = 0) → K 112 [none, none, none, none, none, none, none, some (vI x7), none, some (vI x9)] [] (sh, I, L) (0, 0)) : K 107 [none, none, none, none, some (vI x4), none, none, some (vI x7), some (vI x8), some (vI x9)] [] (sh, I, L) (0, 0) := by
  refine hK.1 107 [none, none, none, none, some (vI x4), none, none, some (vI x7), some (vI x8), some (vI x9)] [] (sh, I, L) (0, 0) ?_
  refine hK.1 109 [none, none, none, none, some (vI x4), none, none, some (vI x7), some (vI x8), some (vI x9)] [vI x4] (sh, I, L) (0, 0) ?_
  exact And.intro (n109) (And.intro (fun h => hK.2 [false, false, false, false, false, false, false, false, true, true] _ _ _ _ _ (kt h)) (fun h => hK.2 [false, false, false, false, false, false, false, true, false, true] _ _ _ _ _ (kf h)))
set_option maxRecDepth 4000 in
theorem B_X11_mean_112 {Q : oQ} {K : oK} (hK : oCl tb_X11_mean Q K) {sh : oS} {I : Nat → Nat → Int} {L : Nat → Nat → Int64} {x7 : Int} {x9 : Int} (k : K 119 [none, none, none, none, none, none, none, none, none, some (vI x9)] [vI x7] (sh, I, L) (0, 0)) : K 112 [none, none, none, none, none, none, none, some (vI x7), none, some (vI x9)] [] (sh, I, L) (0, 0) := by
  refine hK.1 112 [none, none, none, none, none, none, none, some (vI x7), none, some (vI x9)] [] (sh, I, L) (0, 0) ?_
  refine hK.1 114 [none, none, none, none, none, none, none, some (vI x7), none, some (vI x9)] [vI x7] (sh, I, L) (0, 0) ?_
  refine hK.2 [false, false, false, false, false, false, false, false, false, true] _ _ _ _ _ ?_
  exact k
set_option maxRecDepth 4000 in
theorem B_X11_mean_117 {Q : oQ} {K : oK} (hK : oCl tb_X11_mean Q K) {sh : oS} {I : Nat → Nat → Int} {L : Nat → Nat → Int64} {x8 : Int} {x9 : Int} (k : K 119 [none, none, none, none, none, none, none, none, none, some (vI x9)] [vI x8] (sh, I, L) (0, 0)) : K 117 [none, none, none, none, none, none, none, none, some (vI x8), some (vI x9)] [] (sh, I, L) (0, 0) := by
  refine hK.1 117 [none, none, none, none, none, none, none, none, some (vI x8), some (vI x9)] [] (sh, I, L) (0, 0) ?_
  refine hK.2 [false, false, false, false, false, false, false, false, false, true] _ _ _ _ _ ?_
  exact k
set_option maxRecDepth 4000 in
theorem B_X11_mean_119 {Q : oQ} {K : oK} (hK : oCl tb_X11_mean Q K) {sh : oS} {I : Nat → Nat → Int} {L : Nat → Nat → Int64} {x9 : Int} {s0 : Int} (n121a : inR s0) (n121b : inR x9) (z121 : 0 < x9) (k : Q (some (vI (s0.tdiv x9))) (sh, I, L)) : K 119 [none, none, none, none, none, none, none, none, none, some (vI x9)] [vI s0] (sh, I, L) (0, 0) := by
  refine hK.1 119 [none, none, none, none, none, none, none, none, none, some (vI x9)] [vI s0] (sh, I, L) (0, 0) ?_
  refine hK.1 121 [none, none, none, none, none, none, none, none, none, some (vI x9)] [vI x9, vI s0] (sh, I, L) (0, 0) ?_
  refine And.intro (And.intro n121a (And.intro n121b z121)) ?_
  refine hK.1 122 [none, none, none, none, none, none, none, none, none, some (vI x9)] [vI (s0.tdiv x9)] (sh, I, L) (0, 0) ?_
  exact And.intro ⟨by decide, by decide⟩ k
set_option maxRecDepth 4000 in
theorem B_X11_more_0 {Q : oQ} {K : oK} (hK : oCl tb_X11_more Q K) {sh : oS} (hs : Sh sh) {I : Nat → Nat → Int} {L : Nat → Nat → Int64} {x1 : Int} {x2 : Int} {x3 : Int} (k : T_X11_refusal [vR 0, vI x1, vI x2] (sh, I, L) (fun r mm => K 6 [some (vR 0), some (vI x1), some (vI x2), some (vI x3), none, none, none] (r.toList ++ []) mm (0, 0))) : K 0 [some (vR 0), some (vI x1), some (vI x2), some (vI x3), none, none, none] [] (sh, I, L) (0, 0) := by
  refine hK.1 0 [some (vR 0), some (vI x1), some (vI x2), some (vI x3), none, none, none] [] (sh, I, L) (0, 0) ?_
  refine hK.1 1 [some (vR 0), some (vI x1), some (vI x2), some (vI x3), none, none, none] [vR 0] (sh, I, L) (0, 0) ?_
  refine hK.1 2 [some (vR 0), some (vI x1), some (vI x2), some (vI x3), none, none, none] [vI x1, vR 0] (sh, I, L) (0, 0) ?_
  refine hK.1 3 [some (vR 0), some (vI x1), some (vI x2), some (vI x3), none, none, none] [vI x2, vI x1, vR 0] (sh, I, L) (0, 0) ?_
  exact And.intro ⟨(sk_0 hs), Nat.le_of_ble_eq_true rfl, Nat.le_of_ble_eq_true rfl, Nat.le_of_ble_eq_true rfl, Nat.le_of_ble_eq_true rfl⟩ k
set_option maxRecDepth 4000 in
theorem B_X11_more_6 {Q : oQ} {K : oK} (hK : oCl tb_X11_more Q K) {sh : oS} {I : Nat → Nat → Int} {L : Nat → Nat → Int64} {x1 : Int} {x2 : Int} {x3 : Int} {s0 : Int} (n10 : inR s0) (kt : s0 = 0 → K 30 [some (vR 0), some (vI x1), some (vI x2), some (vI x3), none, none, none] [] (sh, I, L) (0, 0)) (kf : ¬ (s0 = 0) → K 13 [none, none, none, none, some (vI s0), none, none] [] (sh, I, L) (0, 0)) : K 6 [some (vR 0), some (vI x1), some (vI x2), some (vI x3), none, none, none] [vI s0] (sh, I, L) (0, 0) := by
  refine hK.1 6 [some (vR 0), some (vI x1), some (vI x2), some (vI x3), none, none, none] [vI s0] (sh, I, L) (0, 0) ?_
  refine hK.1 8 [some (vR 0), some (vI x1), some (vI x2), some (vI x3), some (vI s0), none, none] [] (sh, I, L) (0, 0) ?_
  refine hK.1 10 [some (vR 0), some (vI x1), some (vI x2), some (vI x3), some (vI s0), none, none] [vI s0] (sh, I, L) (0, 0) ?_
  exact And.intro (n10) (And.intro (fun h => hK.2 [true, true, true, true, false, false, false] _ _ _ _ _ (kt h)) (fun h => hK.2 [false, false, false, false, true, false, false] _ _ _ _ _ (kf h)))
set_option maxRecDepth 4000 in
theorem B_X11_more_13 {Q : oQ} {K : oK} (hK : oCl tb_X11_more Q K) {sh : oS} {I : Nat → Nat → Int} {L : Nat → Nat → Int64} {x4 : Int} (n17a : inR x4) (kt : ¬ x4 = (-101) → K 26 [none, none, none, none, none, none, none] [] (sh, I, L) (0, 0)) (kf : ¬ (¬ x4 = (-101)) → K 20 [none, none, none, none, none, none, none] [] (sh, I, L) (0, 0)) : K 13 [none, none, none, none, some (vI x4), none, none] [] (sh, I, L) (0, 0) := by
  refine hK.1 13 [none, none, none, none, some (vI x4), none, none] [] (sh, I, L) (0, 0) ?_
  refine hK.1 15 [none, none, none, none, some (vI x4), none, none] [vI x4] (sh, I, L) (0, 0) ?_
  refine hK.1 17 [none, none, none, none, some (vI x4), none, none] [vI (-101), vI x4] (sh, I, L) (0, 0) ?_
  exact And.intro (And.intro n17a ⟨by decide, by decide⟩) (And.intro (fun h => hK.2 [false, false, false, false, false, false, false] _ _ _ _ _ (kt h)) (fun h => hK.2 [false, false, false, false, false, false, false] _ _ _ _ _ (kf h)))
set_option maxRecDepth 4000 in
theorem B_X11_more_20 {Q : oQ} {K : oK} (hK : oCl tb_X11_more Q K) {sh : oS} {I : Nat → Nat → Int} {L : Nat → Nat → Int64}  (k : K 29 [none, none, none, none, none, none, none] [vI (-100001)] (sh, I, L) (0, 0)) : K 20 [none, none, none, none, none, none, none] [] (sh, I, L) (0, 0) := by
  refine hK.1 20 [none, none, none, none, none, none, none] [] (sh, I, L) (0, 0) ?_
  refine hK.1 23 [none, none, none, none, none, none, none] [vI (-100001)] (sh, I, L) (0, 0) ?_
  exact k
set_option maxRecDepth 4000 in
theorem B_X11_more_26 {Q : oQ} {K : oK} (hK : oCl tb_X11_more Q K) {sh : oS} {I : Nat → Nat → Int} {L : Nat → Nat → Int64}  (k : K 29 [none, none, none, none, none, none, none] [vI (-100003)] (sh, I, L) (0, 0)) : K 26 [none, none, none, none, none, none, none] [] (sh, I, L) (0, 0) := by
  refine hK.1 26 [none, none, none, none, none, none, none] [] (sh, I, L) (0, 0) ?_
  exact k
set_option maxRecDepth 4000 in
theorem B_X11_more_29 {Q : oQ} {K : oK} (hK : oCl tb_X11_more Q K) {sh : oS} {I : Nat → Nat → Int} {L : Nat → Nat → Int64} {s0 : Int} (k : Q (some (vI s0)) (sh, I, L)) : K 29 [none, none, none, none, none, none, none] [vI s0] (sh, I, L) (0, 0) := by
  refine hK.1 29 [none, none, none, none, none, none, none] [vI s0] (sh, I, L) (0, 0) ?_
  exact And.intro ⟨by decide, by decide⟩ k
set_option maxRecDepth 4000 in
theorem B_X11_more_30 {Q : oQ} {K : oK} (hK : oCl tb_X11_more Q K) {sh : oS} {I : Nat → Nat → Int} {L : Nat → Nat → Int64} {x1 : Int} {x2 : Int} {x3 : Int} (n31 : inR x3) (kt : x3 < 0 → K 39 [none, none, none, none, none, none, none] [] (sh, I, L) (0, 0)) (kf : ¬ (x3 < 0) → K 34 [some (vR 0), some (vI x1), some (vI x2), some (vI x3), none, none, none] [] (sh, I, L) (0, 0)) : K 30 [some (vR 0), some (vI x1), some (vI x2), some (vI x3), none, none, none] [] (sh, I, L) (0, 0) := by
  refine hK.1 30 [some (vR 0), some (vI x1), some (vI x2), some (vI x3), none, none, none] [] (sh, I, L) (0, 0) ?_
  refine hK.1 31 [some (vR 0), some (vI x1), some (vI x2), some (vI x3), none, none, none] [vI x3] (sh, I, L) (0, 0) ?_
  exact And.intro (n31) (And.intro (fun h => hK.2 [false, false, false, false, false, false, false] _ _ _ _ _ (kt h)) (fun h => hK.2 [true, true, true, true, false, false, false] _ _ _ _ _ (kf h)))
set_option maxRecDepth 4000 in
theorem B_X11_more_34 {Q : oQ} {K : oK} (hK : oCl tb_X11_more Q K) {sh : oS} {I : Nat → Nat → Int} {L : Nat → Nat → Int64} {x1 : Int} {x2 : Int} {x3 : Int} (n36a : inR x3) (kt : x3 ≤ 4 → K 43 [some (vR 0), some (vI x1), some (vI x2), some (vI x3), none, none, none] [] (sh, I, L) (0, 0)) (kf : ¬ (x3 ≤ 4) → K 39 [none, none, none, none, none, none, none] [] (sh, I, L) (0, 0)) : K 34 [some (vR 0), some (vI x1), some (vI x2), some (vI x3), none, none, none] [] (sh, I, L) (0, 0) := by
  refine hK.1 34 [some (vR 0), some (vI x1), some (vI x2), some (vI x3), none, none, none] [] (sh, I, L) (0, 0) ?_
  refine hK.1 35 [some (vR 0), some (vI x1), some (vI x2), some (vI x3), none, none, none] [vI x3] (sh, I, L) (0, 0) ?_
  refine hK.1 36 [some (vR 0), some (vI x1), some (vI x2), some (vI x3), none, none, none] [vI 4, vI x3] (sh, I, L) (0, 0) ?_
  exact And.intro (And.intro n36a ⟨by decide, by decide⟩) (And.intro (fun h => hK.2 [true, true, true, true, false, false, false] _ _ _ _ _ (kt h)) (fun h => hK.2 [false, false, false, false, false, false, false] _ _ _ _ _ (kf h)))
set_option maxRecDepth 4000 in
theorem B_X11_more_39 {Q : oQ} {K : oK} (hK : oCl tb_X11_more Q K) {sh : oS} {I : Nat → Nat → Int} {L : Nat → Nat → Int64}  (k : Q (some (vI (-100002))) (sh, I, L)) : K 39 [none, none, none, none, none, none, none] [] (sh, I, L) (0, 0) := by
  refine hK.1 39 [none, none, none, none, none, none, none] [] (sh, I, L) (0, 0) ?_
  refine hK.1 42 [none, none, none, none, none, none, none] [vI (-100002)] (sh, I, L) (0, 0) ?_
  exact And.intro ⟨by decide, by decide⟩ k
set_option maxRecDepth 4000 in
theorem B_X11_more_43 {Q : oQ} {K : oK} (hK : oCl tb_X11_more Q K) {sh : oS} (hs : Sh sh) {I : Nat → Nat → Int} {L : Nat → Nat → Int64} {x1 : Int} {x2 : Int} {x3 : Int} {q48 : Nat} (b48 : 0 ≤ x1 ∧ x1 < 8) (r48 : sR sh 10 (x1.toNat) = some q48) (n57a : inR (I 0 11)) (kt : 30 ≤ I 0 11 → K 72 [none, none, none, none, none, none, none] [] (sh, I, L) (0, 0)) (kf : ¬ (30 ≤ I 0 11) → K 60 [some (vR 0), some (vI x1), some (vI x2), some (vI x3), none, some (vR q48), none] [] (sh, I, L) (0, 0)) : K 43 [some (vR 0), some (vI x1), some (vI x2), some (vI x3), none, none, none] [] (sh, I, L) (0, 0) := by
  refine hK.1 43 [some (vR 0), some (vI x1), some (vI x2), some (vI x3), none, none, none] [] (sh, I, L) (0, 0) ?_
  refine hK.1 44 [some (vR 0), some (vI x1), some (vI x2), some (vI x3), none, none, none] [vR 0] (sh, I, L) (0, 0) ?_
  refine And.intro (mem1 (sk_0 hs)) (Exists.intro 10 (And.intro (sr_0_4 hs) ?_))
  refine hK.1 47 [some (vR 0), some (vI x1), some (vI x2), some (vI x3), none, none, none] [vR 10] (sh, I, L) (0, 0) ?_
  refine hK.1 48 [some (vR 0), some (vI x1), some (vI x2), some (vI x3), none, none, none] [vI x1, vR 10] (sh, I, L) (0, 0) ?_
  refine And.intro (And.intro (sk_10 hs) (ixL (sl_10 hs) b48)) (Exists.intro q48 (And.intro r48 ?_))
  refine hK.1 49 [some (vR 0), some (vI x1), some (vI x2), some (vI x3), none, none, none] [vR q48] (sh, I, L) (0, 0) ?_
  refine hK.1 51 [some (vR 0), some (vI x1), some (vI x2), some (vI x3), none, some (vR q48), none] [] (sh, I, L) (0, 0) ?_
  refine hK.1 52 [some (vR 0), some (vI x1), some (vI x2), some (vI x3), none, some (vR q48), none] [vR 0] (sh, I, L) (0, 0) ?_
  refine And.intro (mem1 (sk_0 hs)) ?_
  refine hK.1 55 [some (vR 0), some (vI x1), some (vI x2), some (vI x3), none, some (vR q48), none] [vI (I 0 11)] (sh, I, L) (0, 0) ?_
  refine hK.1 57 [some (vR 0), some (vI x1), some (vI x2), some (vI x3), none, some (vR q48), none] [vI 30, vI (I 0 11)] (sh, I, L) (0, 0) ?_
  exact And.intro (And.intro n57a ⟨by decide, by decide⟩) (And.intro (fun h => hK.2 [false, false, false, false, false, false, false] _ _ _ _ _ (kt h)) (fun h => hK.2 [true, true, true, true, false, true, false] _ _ _ _ _ (kf h)))
set_option maxRecDepth 4000 in
theorem B_X11_more_60 {Q : oQ} {K : oK} (hK : oCl tb_X11_more Q K) {sh : oS} {I : Nat → Nat → Int} {L : Nat → Nat → Int64} {x1 : Int} {x2 : Int} {x3 : Int} {h5 : Nat} (n61 : inR x3) (kt : ¬ x3 = 0 → K 76 [some (vR 0), some (vI x1), some (vI x2), some (vI x3), none, some (vR h5), none] [] (sh, I, L) (0, 0)) (kf : ¬ (¬ x3 = 0) → K 64 [some (vR 0), some (vI x1), some (vI x2), some (vI x3), none, some (vR h5), none] [] (sh, I, L) (0, 0)) : K 60 [some (vR 0), some (vI x1), some (vI x2), some (vI x3), none, some (vR h5), none] [] (sh, I, L) (0, 0) := by
  refine hK.1 60 [some (vR 0), some (vI x1), some (vI x2), some (vI x3), none, some (vR h5), none] [] (sh, I, L) (0, 0) ?_
  refine hK.1 61 [some (vR 0), some (vI x1), some (vI x2), some (vI x3), none, some (vR h5), none] [vI x3] (sh, I, L) (0, 0) ?_
  exact And.intro (n61) (And.intro (fun h => hK.2 [true, true, true, true, false, true, false] _ _ _ _ _ (kt h)) (fun h => hK.2 [true, true, true, true, false, true, false] _ _ _ _ _ (kf h)))
set_option maxRecDepth 4000 in
theorem B_X11_more_64 {Q : oQ} {K : oK} (hK : oCl tb_X11_more Q K) {sh : oS} {I : Nat → Nat → Int} {L : Nat → Nat → Int64} {x1 : Int} {x2 : Int} {x3 : Int} {h5 : Nat} (k0 : sK sh h5 = 0 → T_X0_takesOneMore [vR h5] (sh, I, L) (fun r mm => K 69 [some (vR 0), some (vI x1), some (vI x2), some (vI x3), none, some (vR h5), none] (r.toList ++ []) mm (0, 0))) (k1 : sK sh h5 = 1 → T_X1_takesOneMore [vR h5] (sh, I, L) (fun r mm => K 69 [some (vR 0), some (vI x1), some (vI x2), some (vI x3), none, some (vR h5), none] (r.toList ++ []) mm (0, 0))) (k3 : sK sh h5 = 3 → T_X0_takesOneMore [vR h5] (sh, I, L) (fun r mm => K 69 [some (vR 0), some (vI x1), some (vI x2), some (vI x3), none, some (vR h5), none] (r.toList ++ []) mm (0, 0))) (k5 : sK sh h5 = 5 → T_X0_takesOneMore [vR h5] (sh, I, L) (fun r mm => K 69 [some (vR 0), some (vI x1), some (vI x2), some (vI x3), none, some (vR h5), none] (r.toList ++ []) mm (0, 0))) (k10 : sK sh h5 = 10 → T_X10_takesOneMore [vR h5] (sh, I, L) (fun r mm => K 69 [some (vR 0), some (vI x1), some (vI x2), some (vI x3), none, some (vR h5), none] (r.toList ++ []) mm (0, 0))) (kb : sK sh h5 ∈ [0, 1, 3, 5, 10]) : K 64 [some (vR 0), some (vI x1), some (vI x2), some (vI x3), none, some (vR h5), none] [] (sh, I, L) (0, 0) := by
  refine hK.1 64 [some (vR 0), some (vI x1), some (vI x2), some (vI x3), none, some (vR h5), none] [] (sh, I, L) (0, 0) ?_
  refine hK.1 66 [some (vR 0), some (vI x1), some (vI x2), some (vI x3), none, some (vR h5), none] [vR h5] (sh, I, L) (0, 0) ?_
  refine And.intro ⟨Nat.le_of_ble_eq_true rfl, Nat.le_of_ble_eq_true rfl, Nat.le_of_ble_eq_true rfl, Nat.le_of_ble_eq_true rfl⟩ ?_
  simp only [List.mem_cons, List.not_mem_nil, or_false] at kb
  rcases kb with kb | kb | kb | kb | kb
  · exact ⟨(0, T_X0_takesOneMore), List.mem_of_getElem? (i := 0) rfl, kb, k0 kb⟩
  · exact ⟨(1, T_X1_takesOneMore), List.mem_of_getElem? (i := 1) rfl, kb, k1 kb⟩
  · exact ⟨(3, T_X0_takesOneMore), List.mem_of_getElem? (i := 2) rfl, kb, k3 kb⟩
  · exact ⟨(5, T_X0_takesOneMore), List.mem_of_getElem? (i := 3) rfl, kb, k5 kb⟩
  · exact ⟨(10, T_X10_takesOneMore), List.mem_of_getElem? (i := 4) rfl, kb, k10 kb⟩
set_option maxRecDepth 4000 in
theorem B_X11_more_69 {Q : oQ} {K : oK} (hK : oCl tb_X11_more Q K) {sh : oS} {I : Nat → Nat → Int} {L : Nat → Nat → Int64} {x1 : Int} {x2 : Int} {x3 : Int} {h5 : Nat} {s0 : Int} (n69 : inR s0) (kt : ¬ s0 = 0 → K 76 [some (vR 0), some (vI x1), some (vI x2), some (vI x3), none, some (vR h5), none] [] (sh, I, L) (0, 0)) (kf : ¬ (¬ s0 = 0) → K 72 [none, none, none, none, none, none, none] [] (sh, I, L) (0, 0)) : K 69 [some (vR 0), some (vI x1), some (vI x2), some (vI x3), none, some (vR h5), none] [vI s0] (sh, I, L) (0, 0) := by
  refine hK.1 69 [some (vR 0), some (vI x1), some (vI x2), some (vI x3), none, some (vR h5), none] [vI s0] (sh, I, L) (0, 0) ?_
  exact And.intro (n69) (And.intro (fun h => hK.2 [true, true, true, true, false, true, false] _ _ _ _ _ (kt h)) (fun h => hK.2 [false, false, false, false, false, false, false] _ _ _ _ _ (kf h)))
set_option maxRecDepth 4000 in
theorem B_X11_more_72 {Q : oQ} {K : oK} (hK : oCl tb_X11_more Q K) {sh : oS} {I : Nat → Nat → Int} {L : Nat → Nat → Int64}  (k : Q (some (vI (-100003))) (sh, I, L)) : K 72 [none, none, none, none, none, none, none] [] (sh, I, L) (0, 0) := by
  refine hK.1 72 [none, none, none, none, none, none, none] [] (sh, I, L) (0, 0) ?_
  refine hK.1 75 [none, none, none, none, none, none, none] [vI (-100003)] (sh, I, L) (0, 0) ?_
  exact And.intro ⟨by decide, by decide⟩ k
set_option maxRecDepth 4000 in
theorem B_X11_more_76 {Q : oQ} {K : oK} (hK : oCl tb_X11_more Q K) {sh : oS} (hs : Sh sh) {I : Nat → Nat → Int} {L : Nat → Nat → Int64} {x1 : Int} {x2 : Int} {x3 : Int} {h5 : Nat} {q98 : Nat} {q98e q98p q98t : Nat} (b98 : 0 ≤ x2 ∧ x2 < 4) (r98 : sR sh 9 (x2.toNat) = some q98) (k : T_X6_wayOn [vR q98] (sh, (u2 I 0 11 ((I 0 11) + 1)), L) (fun r mm => K 102 [some (vR 0), some (vI x1), some (vI x2), some (vI x3), none, some (vR h5), none] (r.toList ++ [vI x2, vI x1, vR 0, vR 41]) mm (0, 0))) (Aq98 : MarchAt sh q98 q98e q98p q98t) : K 76 [some (vR 0), some (vI x1), some (vI x2), some (vI x3), none, some (vR h5), none] [] (sh, I, L) (0, 0) := by
  refine hK.1 76 [some (vR 0), some (vI x1), some (vI x2), some (vI x3), none, some (vR h5), none] [] (sh, I, L) (0, 0) ?_
  refine hK.1 77 [some (vR 0), some (vI x1), some (vI x2), some (vI x3), none, some (vR h5), none] [vR 0] (sh, I, L) (0, 0) ?_
  refine hK.1 78 [some (vR 0), some (vI x1), some (vI x2), some (vI x3), none, some (vR h5), none] [vR 0, vR 0] (sh, I, L) (0, 0) ?_
  refine And.intro (mem1 (sk_0 hs)) ?_
  refine hK.1 81 [some (vR 0), some (vI x1), some (vI x2), some (vI x3), none, some (vR h5), none] [vI (I 0 11), vR 0] (sh, I, L) (0, 0) ?_
  refine hK.1 82 [some (vR 0), some (vI x1), some (vI x2), some (vI x3), none, some (vR h5), none] [vI 1, vI (I 0 11), vR 0] (sh, I, L) (0, 0) ?_
  refine hK.1 83 [some (vR 0), some (vI x1), some (vI x2), some (vI x3), none, some (vR h5), none] [vI ((I 0 11) + 1), vR 0] (sh, I, L) (0, 0) ?_
  refine And.intro (mem1 (sk_0 hs)) ?_
  refine hK.1 86 [some (vR 0), some (vI x1), some (vI x2), some (vI x3), none, some (vR h5), none] [] (sh, (u2 I 0 11 ((I 0 11) + 1)), L) (0, 0) ?_
  refine hK.1 87 [some (vR 0), some (vI x1), some (vI x2), some (vI x3), none, some (vR h5), none] [vR 0] (sh, (u2 I 0 11 ((I 0 11) + 1)), L) (0, 0) ?_
  refine And.intro (mem1 (sk_0 hs)) (Exists.intro 41 (And.intro (sr_0_15 hs) ?_))
  refine hK.1 90 [some (vR 0), some (vI x1), some (vI x2), some (vI x3), none, some (vR h5), none] [vR 41] (sh, (u2 I 0 11 ((I 0 11) + 1)), L) (0, 0) ?_
  refine hK.1 91 [some (vR 0), some (vI x1), some (vI x2), some (vI x3), none, some (vR h5), none] [vR 0, vR 41] (sh, (u2 I 0 11 ((I 0 11) + 1)), L) (0, 0) ?_
  refine hK.1 92 [some (vR 0), some (vI x1), some (vI x2), some (vI x3), none, some (vR h5), none] [vI x1, vR 0, vR 41] (sh, (u2 I 0 11 ((I 0 11) + 1)), L) (0, 0) ?_
  refine hK.1 93 [some (vR 0), some (vI x1), some (vI x2), some (vI x3), none, some (vR h5), none] [vI x2, vI x1, vR 0, vR 41] (sh, (u2 I 0 11 ((I 0 11) + 1)), L) (0, 0) ?_
  refine hK.1 94 [some (vR 0), some (vI x1), some (vI x2), some (vI x3), none, some (vR h5), none] [vR 0, vI x2, vI x1, vR 0, vR 41] (sh, (u2 I 0 11 ((I 0 11) + 1)), L) (0, 0) ?_
  refine And.intro (mem1 (sk_0 hs)) (Exists.intro 9 (And.intro (sr_0_3 hs) ?_))
  refine hK.1 97 [some (vR 0), some (vI x1), some (vI x2), some (vI x3), none, some (vR h5), none] [vR 9, vI x2, vI x1, vR 0, vR 41] (sh, (u2 I 0 11 ((I 0 11) + 1)), L) (0, 0) ?_
  refine hK.1 98 [some (vR 0), some (vI x1), some (vI x2), some (vI x3), none, some (vR h5), none] [vI x2, vR 9, vI x2, vI x1, vR 0, vR 41] (sh, (u2 I 0 11 ((I 0 11) + 1)), L) (0, 0) ?_
  refine And.intro (And.intro (sk_9 hs) (ixL (sl_9 hs) b98)) (Exists.intro q98 (And.intro r98 ?_))
  refine hK.1 99 [some (vR 0), some (vI x1), some (vI x2), some (vI x3), none, some (vR h5), none] [vR q98, vI x2, vI x1, vR 0, vR 41] (sh, (u2 I 0 11 ((I 0 11) + 1)), L) (0, 0) ?_
  exact And.intro ⟨Aq98.1, Nat.le_of_ble_eq_true rfl, Nat.le_of_ble_eq_true rfl, Nat.le_of_ble_eq_true rfl, Nat.le_of_ble_eq_true rfl⟩ k
set_option maxRecDepth 4000 in
theorem B_X11_more_102 {Q : oQ} {K : oK} (hK : oCl tb_X11_more Q K) {sh : oS} (hs : Sh sh) {I : Nat → Nat → Int} {L : Nat → Nat → Int64} {x1 : Int} {x2 : Int} {x3 : Int} {h5 : Nat} {s2 : Int} {s3 : Int} {s4 : Int} (k : T_X11_solved [vR 0, vI s2, vI s3, vI s4] (sh, I, L) (fun r mm => K 105 [some (vR 0), some (vI x1), some (vI x2), some (vI x3), none, some (vR h5), none] (r.toList ++ [vR 41]) mm (0, 0))) : K 102 [some (vR 0), some (vI x1), some (vI x2), some (vI x3), none, some (vR h5), none] [vI s4, vI s3, vI s2, vR 0, vR 41] (sh, I, L) (0, 0) := by
  refine hK.1 102 [some (vR 0), some (vI x1), some (vI x2), some (vI x3), none, some (vR h5), none] [vI s4, vI s3, vI s2, vR 0, vR 41] (sh, I, L) (0, 0) ?_
  exact And.intro ⟨(sk_0 hs), Nat.le_of_ble_eq_true rfl, Nat.le_of_ble_eq_true rfl, Nat.le_of_ble_eq_true rfl, Nat.le_of_ble_eq_true rfl⟩ k
set_option maxRecDepth 4000 in
theorem B_X11_more_105 {Q : oQ} {K : oK} (hK : oCl tb_X11_more Q K) {sh : oS} (hs : Sh sh) {I : Nat → Nat → Int} {L : Nat → Nat → Int64} {x1 : Int} {x2 : Int} {x3 : Int} {h5 : Nat} {s1 : Int} (b105 : 0 ≤ s1 ∧ s1 < 128) (k : T_X4_become [vR 6, vR 3] (sh, I, L) (fun r mm => K 119 [some (vR 0), some (vI x1), some (vI x2), some (vI x3), none, some (vR h5), some (vI (I 41 (s1.toNat)))] (r.toList ++ []) mm (0, 0))) : K 105 [some (vR 0), some (vI x1), some (vI x2), some (vI x3), none, some (vR h5), none] [vI s1, vR 41] (sh, I, L) (0, 0) := by
  refine hK.1 105 [some (vR 0), some (vI x1), some (vI x2), some (vI x3), none, some (vR h5), none] [vI s1, vR 41] (sh, I, L) (0, 0) ?_
  refine And.intro (And.intro (sk_41 hs) (ixL (sl_41 hs) b105)) ?_
  refine hK.1 106 [some (vR 0), some (vI x1), some (vI x2), some (vI x3), none, some (vR h5), none] [vI (I 41 (s1.toNat))] (sh, I, L) (0, 0) ?_
  refine hK.1 108 [some (vR 0), some (vI x1), some (vI x2), some (vI x3), none, some (vR h5), some (vI (I 41 (s1.toNat)))] [] (sh, I, L) (0, 0) ?_
  refine hK.1 109 [some (vR 0), some (vI x1), some (vI x2), some (vI x3), none, some (vR h5), some (vI (I 41 (s1.toNat)))] [vR 0] (sh, I, L) (0, 0) ?_
  refine And.intro (mem1 (sk_0 hs)) (Exists.intro 6 (And.intro (sr_0_2 hs) ?_))
  refine hK.1 112 [some (vR 0), some (vI x1), some (vI x2), some (vI x3), none, some (vR h5), some (vI (I 41 (s1.toNat)))] [vR 6] (sh, I, L) (0, 0) ?_
  refine hK.1 113 [some (vR 0), some (vI x1), some (vI x2), some (vI x3), none, some (vR h5), some (vI (I 41 (s1.toNat)))] [vR 0, vR 6] (sh, I, L) (0, 0) ?_
  refine And.intro (mem1 (sk_0 hs)) (Exists.intro 3 (And.intro (sr_0_1 hs) ?_))
  refine hK.1 116 [some (vR 0), some (vI x1), some (vI x2), some (vI x3), none, some (vR h5), some (vI (I 41 (s1.toNat)))] [vR 3, vR 6] (sh, I, L) (0, 0) ?_
  exact And.intro ⟨(sk_6 hs), Nat.le_of_ble_eq_true rfl, Nat.le_of_ble_eq_true rfl, Nat.le_of_ble_eq_true rfl, Nat.le_of_ble_eq_true rfl⟩ k
set_option maxRecDepth 4000 in
theorem B_X11_more_119 {Q : oQ} {K : oK} (hK : oCl tb_X11_more Q K) {sh : oS} (hs : Sh sh) {I : Nat → Nat → Int} {L : Nat → Nat → Int64} {x1 : Int} {x2 : Int} {x3 : Int} {h5 : Nat} {x6 : Int} (k : T_X4_getMore [vR 6, vI x3] (sh, I, L) (fun r mm => K 127 [some (vR 0), some (vI x1), some (vI x2), some (vI x3), none, some (vR h5), some (vI x6)] (r.toList ++ []) mm (0, 0))) : K 119 [some (vR 0), some (vI x1), some (vI x2), some (vI x3), none, some (vR h5), some (vI x6)] [] (sh, I, L) (0, 0) := by
  refine hK.1 119 [some (vR 0), some (vI x1), some (vI x2), some (vI x3), none, some (vR h5), some (vI x6)] [] (sh, I, L) (0, 0) ?_
  refine hK.1 120 [some (vR 0), some (vI x1), some (vI x2), some (vI x3), none, some (vR h5), some (vI x6)] [vR 0] (sh, I, L) (0, 0) ?_
  refine And.intro (mem1 (sk_0 hs)) (Exists.intro 6 (And.intro (sr_0_2 hs) ?_))
  refine hK.1 123 [some (vR 0), some (vI x1), some (vI x2), some (vI x3), none, some (vR h5), some (vI x6)] [vR 6] (sh, I, L) (0, 0) ?_
  refine hK.1 124 [some (vR 0), some (vI x1), some (vI x2), some (vI x3), none, some (vR h5), some (vI x6)] [vI x3, vR 6] (sh, I, L) (0, 0) ?_
  exact And.intro ⟨(sk_6 hs), Nat.le_of_ble_eq_true rfl, Nat.le_of_ble_eq_true rfl, Nat.le_of_ble_eq_true rfl, Nat.le_of_ble_eq_true rfl⟩ k
set_option maxRecDepth 4000 in
theorem B_X11_more_127 {Q : oQ} {K : oK} (hK : oCl tb_X11_more Q K) {sh : oS} (hs : Sh sh) {I : Nat → Nat → Int} {L : Nat → Nat → Int64} {x1 : Int} {x2 : Int} {x3 : Int} {h5 : Nat} {x6 : Int} (n137 : inR x3) (kt : ¬ x3 = 0 → K 150 [none, none, none, none, none, some (vR h5), none] [vI x2, vI x1, vR 6, vR 0, vI x6] (sh, I, L) (0, 0)) (kf : ¬ (¬ x3 = 0) → K 140 [none, none, none, none, none, some (vR h5), none] [vI x2, vI x1, vR 6, vR 0, vI x6] (sh, I, L) (0, 0)) : K 127 [some (vR 0), some (vI x1), some (vI x2), some (vI x3), none, some (vR h5), some (vI x6)] [] (sh, I, L) (0, 0) := by
  refine hK.1 127 [some (vR 0), some (vI x1), some (vI x2), some (vI x3), none, some (vR h5), some (vI x6)] [] (sh, I, L) (0, 0) ?_
  refine hK.1 129 [some (vR 0), some (vI x1), some (vI x2), some (vI x3), none, some (vR h5), some (vI x6)] [vI x6] (sh, I, L) (0, 0) ?_
  refine hK.1 130 [some (vR 0), some (vI x1), some (vI x2), some (vI x3), none, some (vR h5), some (vI x6)] [vR 0, vI x6] (sh, I, L) (0, 0) ?_
  refine hK.1 131 [some (vR 0), some (vI x1), some (vI x2), some (vI x3), none, some (vR h5), some (vI x6)] [vR 0, vR 0, vI x6] (sh, I, L) (0, 0) ?_
  refine And.intro (mem1 (sk_0 hs)) (Exists.intro 6 (And.intro (sr_0_2 hs) ?_))
  refine hK.1 134 [some (vR 0), some (vI x1), some (vI x2), some (vI x3), none, some (vR h5), some (vI x6)] [vR 6, vR 0, vI x6] (sh, I, L) (0, 0) ?_
  refine hK.1 135 [some (vR 0), some (vI x1), some (vI x2), some (vI x3), none, some (vR h5), some (vI x6)] [vI x1, vR 6, vR 0, vI x6] (sh, I, L) (0, 0) ?_
  refine hK.1 136 [some (vR 0), some (vI x1), some (vI x2), some (vI x3), none, some (vR h5), some (vI x6)] [vI x2, vI x1, vR 6, vR 0, vI x6] (sh, I, L) (0, 0) ?_
  refine hK.1 137 [some (vR 0), some (vI x1), some (vI x2), some (vI x3), none, some (vR h5), some (vI x6)] [vI x3, vI x2, vI x1, vR 6, vR 0, vI x6] (sh, I, L) (0, 0) ?_
  exact And.intro (n137) (And.intro (fun h => hK.2 [false, false, false, false, false, true, false] _ _ _ _ _ (kt h)) (fun h => hK.2 [false, false, false, false, false, true, false] _ _ _ _ _ (kf h)))
set_option maxRecDepth 4000 in
theorem B_X11_more_140 {Q : oQ} {K : oK} (hK : oCl tb_X11_more Q K) {sh : oS} {I : Nat → Nat → Int} {L : Nat → Nat → Int64} {h5 : Nat} {s0 : Int} {s3 : Int} {s4 : Int} (kh5_0 : sK sh h5 ∈ [0, 1, 3, 5, 10]) (k : K 155 [none, none, none, none, none, none, none] [vI ((I h5 0) + 1), vI s4, vI s3, vR 6, vR 0, vI s0] (sh, I, L) (0, 0)) : K 140 [none, none, none, none, none, some (vR h5), none] [vI s4, vI s3, vR 6, vR 0, vI s0] (sh, I, L) (0, 0) := by
  refine hK.1 140 [none, none, none, none, none, some (vR h5), none] [vI s4, vI s3, vR 6, vR 0, vI s0] (sh, I, L) (0, 0) ?_
  refine hK.1 142 [none, none, none, none, none, some (vR h5), none] [vR h5, vI s4, vI s3, vR 6, vR 0, vI s0] (sh, I, L) (0, 0) ?_
  refine And.intro (kh5_0) ?_
  refine hK.1 145 [none, none, none, none, none, some (vR h5), none] [vI (I h5 0), vI s4, vI s3, vR 6, vR 0, vI s0] (sh, I, L) (0, 0) ?_
  refine hK.1 146 [none, none, none, none, none, some (vR h5), none] [vI 1, vI (I h5 0), vI s4, vI s3, vR 6, vR 0, vI s0] (sh, I, L) (0, 0) ?_
  refine hK.1 147 [none, none, none, none, none, some (vR h5), none] [vI ((I h5 0) + 1), vI s4, vI s3, vR 6, vR 0, vI s0] (sh, I, L) (0, 0) ?_
  refine hK.2 [false, false, false, false, false, false, false] _ _ _ _ _ ?_
  exact k
set_option maxRecDepth 4000 in
theorem B_X11_more_150 {Q : oQ} {K : oK} (hK : oCl tb_X11_more Q K) {sh : oS} {I : Nat → Nat → Int} {L : Nat → Nat → Int64} {h5 : Nat} {s0 : Int} {s3 : Int} {s4 : Int} (kh5_0 : sK sh h5 ∈ [0, 1, 3, 5, 10]) (k : K 155 [none, none, none, none, none, none, none] [vI (I h5 0), vI s4, vI s3, vR 6, vR 0, vI s0] (sh, I, L) (0, 0)) : K 150 [none, none, none, none, none, some (vR h5), none] [vI s4, vI s3, vR 6, vR 0, vI s0] (sh, I, L) (0, 0) := by
  refine hK.1 150 [none, none, none, none, none, some (vR h5), none] [vI s4, vI s3, vR 6, vR 0, vI s0] (sh, I, L) (0, 0) ?_
  refine hK.1 152 [none, none, none, none, none, some (vR h5), none] [vR h5, vI s4, vI s3, vR 6, vR 0, vI s0] (sh, I, L) (0, 0) ?_
  refine And.intro (kh5_0) ?_
  refine hK.2 [false, false, false, false, false, false, false] _ _ _ _ _ ?_
  exact k
set_option maxRecDepth 4000 in
theorem B_X11_more_155 {Q : oQ} {K : oK} (hK : oCl tb_X11_more Q K) {sh : oS} (hs : Sh sh) {I : Nat → Nat → Int} {L : Nat → Nat → Int64} {s0 : Int} {s3 : Int} {s4 : Int} {s5 : Int} (k : T_X11_hungryIn [vR 0, vR 6, vI s3, vI s4, vI s5] (sh, I, L) (fun r mm => K 158 [none, none, none, none, none, none, none] (r.toList ++ [vI s0]) mm (0, 0))) : K 155 [none, none, none, none, none, none, none] [vI s5, vI s4, vI s3, vR 6, vR 0, vI s0] (sh, I, L) (0, 0) := by
  refine hK.1 155 [none, none, none, none, none, none, none] [vI s5, vI s4, vI s3, vR 6, vR 0, vI s0] (sh, I, L) (0, 0) ?_
  exact And.intro ⟨(sk_0 hs), Nat.le_of_ble_eq_true rfl, Nat.le_of_ble_eq_true rfl, Nat.le_of_ble_eq_true rfl, Nat.le_of_ble_eq_true rfl⟩ k
set_option maxRecDepth 4000 in
theorem B_X11_more_158 {Q : oQ} {K : oK} (hK : oCl tb_X11_more Q K) {sh : oS} {I : Nat → Nat → Int} {L : Nat → Nat → Int64} {s0 : Int} {s1 : Int} (k : Q (some (vI (s0 - s1))) (sh, I, L)) : K 158 [none, none, none, none, none, none, none] [vI s1, vI s0] (sh, I, L) (0, 0) := by
  refine hK.1 158 [none, none, none, none, none, none, none] [vI s1, vI s0] (sh, I, L) (0, 0) ?_
  refine hK.1 159 [none, none, none, none, none, none, none] [vI (s0 - s1)] (sh, I, L) (0, 0) ?_
  exact And.intro ⟨by decide, by decide⟩ k
set_option maxRecDepth 4000 in
theorem B_X11_mostNumber_0 {Q : oQ} {K : oK} (hK : oCl tb_X11_mostNumber Q K) {sh : oS} {I : Nat → Nat → Int} {L : Nat → Nat → Int64} {x0 : Int} (n1 : inR x0) (kt : ¬ x0 = 0 → K 9 [some (vI x0)] [] (sh, I, L) (0, 0)) (kf : ¬ (¬ x0 = 0) → K 4 [none] [] (sh, I, L) (0, 0)) : K 0 [some (vI x0)] [] (sh, I, L) (0, 0) := by
  refine hK.1 0 [some (vI x0)] [] (sh, I, L) (0, 0) ?_
  refine hK.1 1 [some (vI x0)] [vI x0] (sh, I, L) (0, 0) ?_
  exact And.intro (n1) (And.intro (fun h => hK.2 [true] _ _ _ _ _ (kt h)) (fun h => hK.2 [false] _ _ _ _ _ (kf h)))
set_option maxRecDepth 4000 in
theorem B_X11_mostNumber_4 {Q : oQ} {K : oK} (hK : oCl tb_X11_mostNumber Q K) {sh : oS} {I : Nat → Nat → Int} {L : Nat → Nat → Int64}  (k : K 20 [none] [vI 7] (sh, I, L) (0, 0)) : K 4 [none] [] (sh, I, L) (0, 0) := by
  refine hK.1 4 [none] [] (sh, I, L) (0, 0) ?_
  refine hK.1 6 [none] [vI 7] (sh, I, L) (0, 0) ?_
  exact k
set_option maxRecDepth 4000 in
theorem B_X11_mostNumber_9 {Q : oQ} {K : oK} (hK : oCl tb_X11_mostNumber Q K) {sh : oS} {I : Nat → Nat → Int} {L : Nat → Nat → Int64} {x0 : Int} (n11a : inR x0) (kt : ¬ x0 = 3 → K 18 [none] [] (sh, I, L) (0, 0)) (kf : ¬ (¬ x0 = 3) → K 14 [none] [] (sh, I, L) (0, 0)) : K 9 [some (vI x0)] [] (sh, I, L) (0, 0) := by
  refine hK.1 9 [some (vI x0)] [] (sh, I, L) (0, 0) ?_
  refine hK.1 10 [some (vI x0)] [vI x0] (sh, I, L) (0, 0) ?_
  refine hK.1 11 [some (vI x0)] [vI 3, vI x0] (sh, I, L) (0, 0) ?_
  exact And.intro (And.intro n11a ⟨by decide, by decide⟩) (And.intro (fun h => hK.2 [false] _ _ _ _ _ (kt h)) (fun h => hK.2 [false] _ _ _ _ _ (kf h)))
set_option maxRecDepth 4000 in
theorem B_X11_mostNumber_14 {Q : oQ} {K : oK} (hK : oCl tb_X11_mostNumber Q K) {sh : oS} {I : Nat → Nat → Int} {L : Nat → Nat → Int64}  (k : K 20 [none] [vI 0] (sh, I, L) (0, 0)) : K 14 [none] [] (sh, I, L) (0, 0) := by
  refine hK.1 14 [none] [] (sh, I, L) (0, 0) ?_
  refine hK.1 15 [none] [vI 0] (sh, I, L) (0, 0) ?_
  exact k
set_option maxRecDepth 4000 in
theorem B_X11_mostNumber_18 {Q : oQ} {K : oK} (hK : oCl tb_X11_mostNumber Q K) {sh : oS} {I : Nat → Nat → Int} {L : Nat → Nat → Int64}  (k : K 20 [none] [vI 9] (sh, I, L) (0, 0)) : K 18 [none] [] (sh, I, L) (0, 0) := by
  refine hK.1 18 [none] [] (sh, I, L) (0, 0) ?_
  exact k
set_option maxRecDepth 4000 in
theorem B_X11_mostNumber_20 {Q : oQ} {K : oK} (hK : oCl tb_X11_mostNumber Q K) {sh : oS} {I : Nat → Nat → Int} {L : Nat → Nat → Int64} {s0 : Int} (k : Q (some (vI s0)) (sh, I, L)) : K 20 [none] [vI s0] (sh, I, L) (0, 0) := by
  refine hK.1 20 [none] [vI s0] (sh, I, L) (0, 0) ?_
  exact And.intro ⟨by decide, by decide⟩ k
set_option maxRecDepth 4000 in
theorem B_X11_place_0 {Q : oQ} {K : oK} (hK : oCl tb_X11_place Q K) {sh : oS} (hs : Sh sh) {I : Nat → Nat → Int} {L : Nat → Nat → Int64} {x1 : Int} {x2 : Int} (k : T_X4_has [vR 3, vI x1] (sh, I, L) (fun r mm => K 8 [some (vR 0), some (vI x1), some (vI x2)] (r.toList ++ []) mm (0, 0))) : K 0 [some (vR 0), some (vI x1), some (vI x2)] [] (sh, I, L) (0, 0) := by
  refine hK.1 0 [some (vR 0), some (vI x1), some (vI x2)] [] (sh, I, L) (0, 0) ?_
  refine hK.1 1 [some (vR 0), some (vI x1), some (vI x2)] [vR 0] (sh, I, L) (0, 0) ?_
  refine And.intro (mem1 (sk_0 hs)) (Exists.intro 3 (And.intro (sr_0_1 hs) ?_))
  refine hK.1 4 [some (vR 0), some (vI x1), some (vI x2)] [vR 3] (sh, I, L) (0, 0) ?_
  refine hK.1 5 [some (vR 0), some (vI x1), some (vI x2)] [vI x1, vR 3] (sh, I, L) (0, 0) ?_
  exact And.intro ⟨(sk_3 hs), Nat.le_of_ble_eq_true rfl, Nat.le_of_ble_eq_true rfl, Nat.le_of_ble_eq_true rfl, Nat.le_of_ble_eq_true rfl⟩ k
set_option maxRecDepth 4000 in
theorem B_X11_place_8 {Q : oQ} {K : oK} (hK : oCl tb_X11_place Q K) {sh : oS} {I : Nat → Nat → Int} {L : Nat → Nat → Int64} {x1 : Int} {x2 : Int} {s0 : Int} (n8 : inR s0) (kt : ¬ s0 = 0 → K 14 [some (vR 0), some (vI x1), some (vI x2)] [] (sh, I, L) (0, 0)) (kf : ¬ (¬ s0 = 0) → K 11 [none, none, none] [] (sh, I, L) (0, 0)) : K 8 [some (vR 0), some (vI x1), some (vI x2)] [vI s0] (sh, I, L) (0, 0) := by
  refine hK.1 8 [some (vR 0), some (vI x1), some (vI x2)] [vI s0] (sh, I, L) (0, 0) ?_
  exact And.intro (n8) (And.intro (fun h => hK.2 [true, true, true] _ _ _ _ _ (kt h)) (fun h => hK.2 [false, false, false] _ _ _ _ _ (kf h)))
set_option maxRecDepth 4000 in
theorem B_X11_place_11 {Q : oQ} {K : oK} (hK : oCl tb_X11_place Q K) {sh : oS} {I : Nat → Nat → Int} {L : Nat → Nat → Int64}  (k : Q (some (vI (-101))) (sh, I, L)) : K 11 [none, none, none] [] (sh, I, L) (0, 0) := by
  refine hK.1 11 [none, none, none] [] (sh, I, L) (0, 0) ?_
  refine hK.1 13 [none, none, none] [vI (-101)] (sh, I, L) (0, 0) ?_
  exact And.intro ⟨by decide, by decide⟩ k
set_option maxRecDepth 4000 in
theorem B_X11_place_14 {Q : oQ} {K : oK} (hK : oCl tb_X11_place Q K) {sh : oS} {I : Nat → Nat → Int} {L : Nat → Nat → Int64} {x1 : Int} {x2 : Int} (n15 : inR x2) (kt : x2 < 0 → K 23 [none, none, none] [] (sh, I, L) (0, 0)) (kf : ¬ (x2 < 0) → K 18 [some (vR 0), some (vI x1), some (vI x2)] [] (sh, I, L) (0, 0)) : K 14 [some (vR 0), some (vI x1), some (vI x2)] [] (sh, I, L) (0, 0) := by
  refine hK.1 14 [some (vR 0), some (vI x1), some (vI x2)] [] (sh, I, L) (0, 0) ?_
  refine hK.1 15 [some (vR 0), some (vI x1), some (vI x2)] [vI x2] (sh, I, L) (0, 0) ?_
  exact And.intro (n15) (And.intro (fun h => hK.2 [false, false, false] _ _ _ _ _ (kt h)) (fun h => hK.2 [true, true, true] _ _ _ _ _ (kf h)))
set_option maxRecDepth 4000 in
theorem B_X11_place_18 {Q : oQ} {K : oK} (hK : oCl tb_X11_place Q K) {sh : oS} {I : Nat → Nat → Int} {L : Nat → Nat → Int64} {x1 : Int} {x2 : Int} (n20a : inR x2) (kt : x2 ≤ 1 → K 26 [some (vR 0), some (vI x1), some (vI x2)] [] (sh, I, L) (0, 0)) (kf : ¬ (x2 ≤ 1) → K 23 [none, none, none] [] (sh, I, L) (0, 0)) : K 18 [some (vR 0), some (vI x1), some (vI x2)] [] (sh, I, L) (0, 0) := by
  refine hK.1 18 [some (vR 0), some (vI x1), some (vI x2)] [] (sh, I, L) (0, 0) ?_
  refine hK.1 19 [some (vR 0), some (vI x1), some (vI x2)] [vI x2] (sh, I, L) (0, 0) ?_
  refine hK.1 20 [some (vR 0), some (vI x1), some (vI x2)] [vI 1, vI x2] (sh, I, L) (0, 0) ?_
  exact And.intro (And.intro n20a ⟨by decide, by decide⟩) (And.intro (fun h => hK.2 [true, true, true] _ _ _ _ _ (kt h)) (fun h => hK.2 [false, false, false] _ _ _ _ _ (kf h)))
set_option maxRecDepth 4000 in
theorem B_X11_place_23 {Q : oQ} {K : oK} (hK : oCl tb_X11_place Q K) {sh : oS} {I : Nat → Nat → Int} {L : Nat → Nat → Int64}  (k : Q (some (vI (-102))) (sh, I, L)) : K 23 [none, none, none] [] (sh, I, L) (0, 0) := by
  refine hK.1 23 [none, none, none] [] (sh, I, L) (0, 0) ?_
  refine hK.1 25 [none, none, none] [vI (-102)] (sh, I, L) (0, 0) ?_
  exact And.intro ⟨by decide, by decide⟩ k
set_option maxRecDepth 4000 in
theorem B_X11_place_26 {Q : oQ} {K : oK} (hK : oCl tb_X11_place Q K) {sh : oS} {I : Nat → Nat → Int} {L : Nat → Nat → Int64} {x1 : Int} {x2 : Int} (n27 : inR x2) (kt : ¬ x2 = 0 → K 42 [some (vR 0), some (vI x1), none] [] (sh, I, L) (0, 0)) (kf : ¬ (¬ x2 = 0) → K 30 [some (vR 0), some (vI x1), none] [] (sh, I, L) (0, 0)) : K 26 [some (vR 0), some (vI x1), some (vI x2)] [] (sh, I, L) (0, 0) := by
  refine hK.1 26 [some (vR 0), some (vI x1), some (vI x2)] [] (sh, I, L) (0, 0) ?_
  refine hK.1 27 [some (vR 0), some (vI x1), some (vI x2)] [vI x2] (sh, I, L) (0, 0) ?_
  exact And.intro (n27) (And.intro (fun h => hK.2 [true, true, false] _ _ _ _ _ (kt h)) (fun h => hK.2 [true, true, false] _ _ _ _ _ (kf h)))
set_option maxRecDepth 4000 in
theorem B_X11_place_30 {Q : oQ} {K : oK} (hK : oCl tb_X11_place Q K) {sh : oS} (hs : Sh sh) {I : Nat → Nat → Int} {L : Nat → Nat → Int64} {x1 : Int} (b38 : 0 ≤ x1 ∧ x1 < 8) (k : K 51 [none, none, none] [vI (I 4 (x1.toNat))] (sh, I, L) (0, 0)) : K 30 [some (vR 0), some (vI x1), none] [] (sh, I, L) (0, 0) := by
  refine hK.1 30 [some (vR 0), some (vI x1), none] [] (sh, I, L) (0, 0) ?_
  refine hK.1 31 [some (vR 0), some (vI x1), none] [vR 0] (sh, I, L) (0, 0) ?_
  refine And.intro (mem1 (sk_0 hs)) (Exists.intro 3 (And.intro (sr_0_1 hs) ?_))
  refine hK.1 34 [some (vR 0), some (vI x1), none] [vR 3] (sh, I, L) (0, 0) ?_
  refine And.intro (mem1 (sk_3 hs)) (Exists.intro 4 (And.intro (sr_3_1 hs) ?_))
  refine hK.1 37 [some (vR 0), some (vI x1), none] [vR 4] (sh, I, L) (0, 0) ?_
  refine hK.1 38 [some (vR 0), some (vI x1), none] [vI x1, vR 4] (sh, I, L) (0, 0) ?_
  refine And.intro (And.intro (sk_4 hs) (ixL (sl_4 hs) b38)) ?_
  refine hK.1 39 [some (vR 0), some (vI x1), none] [vI (I 4 (x1.toNat))] (sh, I, L) (0, 0) ?_
  refine hK.2 [false, false, false] _ _ _ _ _ ?_
  exact k
set_option maxRecDepth 4000 in
theorem B_X11_place_42 {Q : oQ} {K : oK} (hK : oCl tb_X11_place Q K) {sh : oS} (hs : Sh sh) {I : Nat → Nat → Int} {L : Nat → Nat → Int64} {x1 : Int} (b50 : 0 ≤ x1 ∧ x1 < 8) (k : K 51 [none, none, none] [vI (I 5 (x1.toNat))] (sh, I, L) (0, 0)) : K 42 [some (vR 0), some (vI x1), none] [] (sh, I, L) (0, 0) := by
  refine hK.1 42 [some (vR 0), some (vI x1), none] [] (sh, I, L) (0, 0) ?_
  refine hK.1 43 [some (vR 0), some (vI x1), none] [vR 0] (sh, I, L) (0, 0) ?_
  refine And.intro (mem1 (sk_0 hs)) (Exists.intro 3 (And.intro (sr_0_1 hs) ?_))
  refine hK.1 46 [some (vR 0), some (vI x1), none] [vR 3] (sh, I, L) (0, 0) ?_
  refine And.intro (mem1 (sk_3 hs)) (Exists.intro 5 (And.intro (sr_3_2 hs) ?_))
  refine hK.1 49 [some (vR 0), some (vI x1), none] [vR 5] (sh, I, L) (0, 0) ?_
  refine hK.1 50 [some (vR 0), some (vI x1), none] [vI x1, vR 5] (sh, I, L) (0, 0) ?_
  refine And.intro (And.intro (sk_5 hs) (ixL (sl_5 hs) b50)) ?_
  refine hK.2 [false, false, false] _ _ _ _ _ ?_
  exact k
set_option maxRecDepth 4000 in
theorem B_X11_place_51 {Q : oQ} {K : oK} (hK : oCl tb_X11_place Q K) {sh : oS} {I : Nat → Nat → Int} {L : Nat → Nat → Int64} {s0 : Int} (k : Q (some (vI s0)) (sh, I, L)) : K 51 [none, none, none] [vI s0] (sh, I, L) (0, 0) := by
  refine hK.1 51 [none, none, none] [vI s0] (sh, I, L) (0, 0) ?_
  exact And.intro ⟨by decide, by decide⟩ k
set_option maxRecDepth 4000 in
theorem B_X11_plan_0 {Q : oQ} {K : oK} (hK : oCl tb_X11_plan Q K) {sh : oS} {I : Nat → Nat → Int} {L : Nat → Nat → Int64} {x1 : Int} {x2 : Int} {x3 : Int} (n1 : inR x1) (kt : x1 < 0 → K 28 [none, none, none, none] [] (sh, I, L) (0, 0)) (kf : ¬ (x1 < 0) → K 4 [some (vR 0), some (vI x1), some (vI x2), some (vI x3)] [] (sh, I, L) (0, 0)) : K 0 [some (vR 0), some (vI x1), some (vI x2), some (vI x3)] [] (sh, I, L) (0, 0) := by
  refine hK.1 0 [some (vR 0), some (vI x1), some (vI x2), some (vI x3)] [] (sh, I, L) (0, 0) ?_
  refine hK.1 1 [some (vR 0), some (vI x1), some (vI x2), some (vI x3)] [vI x1] (sh, I, L) (0, 0) ?_
  exact And.intro (n1) (And.intro (fun h => hK.2 [false, false, false, false] _ _ _ _ _ (kt h)) (fun h => hK.2 [true, true, true, true] _ _ _ _ _ (kf h)))
set_option maxRecDepth 4000 in
theorem B_X11_plan_4 {Q : oQ} {K : oK} (hK : oCl tb_X11_plan Q K) {sh : oS} {I : Nat → Nat → Int} {L : Nat → Nat → Int64} {x1 : Int} {x2 : Int} {x3 : Int} (n6a : inR x1) (kt : 3 < x1 → K 28 [none, none, none, none] [] (sh, I, L) (0, 0)) (kf : ¬ (3 < x1) → K 9 [some (vR 0), some (vI x1), some (vI x2), some (vI x3)] [] (sh, I, L) (0, 0)) : K 4 [some (vR 0), some (vI x1), some (vI x2), some (vI x3)] [] (sh, I, L) (0, 0) := by
  refine hK.1 4 [some (vR 0), some (vI x1), some (vI x2), some (vI x3)] [] (sh, I, L) (0, 0) ?_
  refine hK.1 5 [some (vR 0), some (vI x1), some (vI x2), some (vI x3)] [vI x1] (sh, I, L) (0, 0) ?_
  refine hK.1 6 [some (vR 0), some (vI x1), some (vI x2), some (vI x3)] [vI 3, vI x1] (sh, I, L) (0, 0) ?_
  exact And.intro (And.intro n6a ⟨by decide, by decide⟩) (And.intro (fun h => hK.2 [false, false, false, false] _ _ _ _ _ (kt h)) (fun h => hK.2 [true, true, true, true] _ _ _ _ _ (kf h)))
set_option maxRecDepth 4000 in
theorem B_X11_plan_9 {Q : oQ} {K : oK} (hK : oCl tb_X11_plan Q K) {sh : oS} {I : Nat → Nat → Int} {L : Nat → Nat → Int64} {x1 : Int} {x2 : Int} {x3 : Int} (n11a : inR x2) (kt : x2 < 1 → K 28 [none, none, none, none] [] (sh, I, L) (0, 0)) (kf : ¬ (x2 < 1) → K 14 [some (vR 0), some (vI x1), some (vI x2), some (vI x3)] [] (sh, I, L) (0, 0)) : K 9 [some (vR 0), some (vI x1), some (vI x2), some (vI x3)] [] (sh, I, L) (0, 0) := by
  refine hK.1 9 [some (vR 0), some (vI x1), some (vI x2), some (vI x3)] [] (sh, I, L) (0, 0) ?_
  refine hK.1 10 [some (vR 0), some (vI x1), some (vI x2), some (vI x3)] [vI x2] (sh, I, L) (0, 0) ?_
  refine hK.1 11 [some (vR 0), some (vI x1), some (vI x2), some (vI x3)] [vI 1, vI x2] (sh, I, L) (0, 0) ?_
  exact And.intro (And.intro n11a ⟨by decide, by decide⟩) (And.intro (fun h => hK.2 [false, false, false, false] _ _ _ _ _ (kt h)) (fun h => hK.2 [true, true, true, true] _ _ _ _ _ (kf h)))
set_option maxRecDepth 4000 in
theorem B_X11_plan_14 {Q : oQ} {K : oK} (hK : oCl tb_X11_plan Q K) {sh : oS} {I : Nat → Nat → Int} {L : Nat → Nat → Int64} {x1 : Int} {x2 : Int} {x3 : Int} (n17a : inR x1) (kt : ¬ x1 = 3 → K 24 [some (vR 0), some (vI x1), some (vI x2), some (vI x3)] [vI x2] (sh, I, L) (0, 0)) (kf : ¬ (¬ x1 = 3) → K 20 [some (vR 0), some (vI x1), some (vI x2), some (vI x3)] [vI x2] (sh, I, L) (0, 0)) : K 14 [some (vR 0), some (vI x1), some (vI x2), some (vI x3)] [] (sh, I, L) (0, 0) := by
  refine hK.1 14 [some (vR 0), some (vI x1), some (vI x2), some (vI x3)] [] (sh, I, L) (0, 0) ?_
  refine hK.1 15 [some (vR 0), some (vI x1), some (vI x2), some (vI x3)] [vI x2] (sh, I, L) (0, 0) ?_
  refine hK.1 16 [some (vR 0), some (vI x1), some (vI x2), some (vI x3)] [vI x1, vI x2] (sh, I, L) (0, 0) ?_
  refine hK.1 17 [some (vR 0), some (vI x1), some (vI x2), some (vI x3)] [vI 3, vI x1, vI x2] (sh, I, L) (0, 0) ?_
  exact And.intro (And.intro n17a ⟨by decide, by decide⟩) (And.intro (fun h => hK.2 [true, true, true, true] _ _ _ _ _ (kt h)) (fun h => hK.2 [true, true, true, true] _ _ _ _ _ (kf h)))
set_option maxRecDepth 4000 in
theorem B_X11_plan_20 {Q : oQ} {K : oK} (hK : oCl tb_X11_plan Q K) {sh : oS} {I : Nat → Nat → Int} {L : Nat → Nat → Int64} {x1 : Int} {x2 : Int} {x3 : Int} {s0 : Int} (k : K 25 [some (vR 0), some (vI x1), some (vI x2), some (vI x3)] [vI 2, vI s0] (sh, I, L) (0, 0)) : K 20 [some (vR 0), some (vI x1), some (vI x2), some (vI x3)] [vI s0] (sh, I, L) (0, 0) := by
  refine hK.1 20 [some (vR 0), some (vI x1), some (vI x2), some (vI x3)] [vI s0] (sh, I, L) (0, 0) ?_
  refine hK.1 21 [some (vR 0), some (vI x1), some (vI x2), some (vI x3)] [vI 2, vI s0] (sh, I, L) (0, 0) ?_
  exact k
set_option maxRecDepth 4000 in
theorem B_X11_plan_24 {Q : oQ} {K : oK} (hK : oCl tb_X11_plan Q K) {sh : oS} {I : Nat → Nat → Int} {L : Nat → Nat → Int64} {x1 : Int} {x2 : Int} {x3 : Int} {s0 : Int} (k : K 25 [some (vR 0), some (vI x1), some (vI x2), some (vI x3)] [vI 3, vI s0] (sh, I, L) (0, 0)) : K 24 [some (vR 0), some (vI x1), some (vI x2), some (vI x3)] [vI s0] (sh, I, L) (0, 0) := by
  refine hK.1 24 [some (vR 0), some (vI x1), some (vI x2), some (vI x3)] [vI s0] (sh, I, L) (0, 0) ?_
  exact k
set_option maxRecDepth 4000 in
theorem B_X11_plan_25 {Q : oQ} {K : oK} (hK : oCl tb_X11_plan Q K) {sh : oS} {I : Nat → Nat → Int} {L : Nat → Nat → Int64} {x1 : Int} {x2 : Int} {x3 : Int} {s0 : Int} {s1 : Int} (n25a : inR s0) (n25b : inR s1) (kt : s0 ≤ s1 → K 31 [some (vR 0), some (vI x1), some (vI x2), some (vI x3)] [] (sh, I, L) (0, 0)) (kf : ¬ (s0 ≤ s1) → K 28 [none, none, none, none] [] (sh, I, L) (0, 0)) : K 25 [some (vR 0), some (vI x1), some (vI x2), some (vI x3)] [vI s1, vI s0] (sh, I, L) (0, 0) := by
  refine hK.1 25 [some (vR 0), some (vI x1), some (vI x2), some (vI x3)] [vI s1, vI s0] (sh, I, L) (0, 0) ?_
  exact And.intro (And.intro n25a n25b) (And.intro (fun h => hK.2 [true, true, true, true] _ _ _ _ _ (kt h)) (fun h => hK.2 [false, false, false, false] _ _ _ _ _ (kf h)))
set_option maxRecDepth 4000 in
theorem B_X11_plan_28 {Q : oQ} {K : oK} (hK : oCl tb_X11_plan Q K) {sh : oS} {I : Nat → Nat → Int} {L : Nat → Nat → Int64}  (k : Q (some (vI (-102))) (sh, I, L)) : K 28 [none, none, none, none] [] (sh, I, L) (0, 0) := by
  refine hK.1 28 [none, none, none, none] [] (sh, I, L) (0, 0) ?_
  refine hK.1 30 [none, none, none, none] [vI (-102)] (sh, I, L) (0, 0) ?_
  exact And.intro ⟨by decide, by decide⟩ k
set_option maxRecDepth 4000 in
theorem B_X11_plan_31 {Q : oQ} {K : oK} (hK : oCl tb_X11_plan Q K) {sh : oS} {I : Nat → Nat → Int} {L : Nat → Nat → Int64} {x1 : Int} {x2 : Int} {x3 : Int} (k : T_X11_leastNumber [vI x1] (sh, I, L) (fun r mm => K 36 [some (vR 0), some (vI x1), some (vI x2), some (vI x3)] (r.toList ++ [vI x3]) mm (0, 0))) : K 31 [some (vR 0), some (vI x1), some (vI x2), some (vI x3)] [] (sh, I, L) (0, 0) := by
  refine hK.1 31 [some (vR 0), some (vI x1), some (vI x2), some (vI x3)] [] (sh, I, L) (0, 0) ?_
  refine hK.1 32 [some (vR 0), some (vI x1), some (vI x2), some (vI x3)] [vI x3] (sh, I, L) (0, 0) ?_
  refine hK.1 33 [some (vR 0), some (vI x1), some (vI x2), some (vI x3)] [vI x1, vI x3] (sh, I, L) (0, 0) ?_
  exact And.intro ⟨Nat.le_of_ble_eq_true rfl, Nat.le_of_ble_eq_true rfl, Nat.le_of_ble_eq_true rfl, Nat.le_of_ble_eq_true rfl⟩ k
set_option maxRecDepth 4000 in
theorem B_X11_plan_36 {Q : oQ} {K : oK} (hK : oCl tb_X11_plan Q K) {sh : oS} {I : Nat → Nat → Int} {L : Nat → Nat → Int64} {x1 : Int} {x2 : Int} {x3 : Int} {s0 : Int} {s1 : Int} (n36a : inR s0) (n36b : inR s1) (kt : s0 < s1 → K 47 [none, none, none, none] [] (sh, I, L) (0, 0)) (kf : ¬ (s0 < s1) → K 39 [some (vR 0), some (vI x1), some (vI x2), some (vI x3)] [] (sh, I, L) (0, 0)) : K 36 [some (vR 0), some (vI x1), some (vI x2), some (vI x3)] [vI s1, vI s0] (sh, I, L) (0, 0) := by
  refine hK.1 36 [some (vR 0), some (vI x1), some (vI x2), some (vI x3)] [vI s1, vI s0] (sh, I, L) (0, 0) ?_
  exact And.intro (And.intro n36a n36b) (And.intro (fun h => hK.2 [false, false, false, false] _ _ _ _ _ (kt h)) (fun h => hK.2 [true, true, true, true] _ _ _ _ _ (kf h)))
set_option maxRecDepth 4000 in
theorem B_X11_plan_39 {Q : oQ} {K : oK} (hK : oCl tb_X11_plan Q K) {sh : oS} {I : Nat → Nat → Int} {L : Nat → Nat → Int64} {x1 : Int} {x2 : Int} {x3 : Int} (k : T_X11_mostNumber [vI x1] (sh, I, L) (fun r mm => K 44 [some (vR 0), some (vI x1), some (vI x2), some (vI x3)] (r.toList ++ [vI x3]) mm (0, 0))) : K 39 [some (vR 0), some (vI x1), some (vI x2), some (vI x3)] [] (sh, I, L) (0, 0) := by
  refine hK.1 39 [some (vR 0), some (vI x1), some (vI x2), some (vI x3)] [] (sh, I, L) (0, 0) ?_
  refine hK.1 40 [some (vR 0), some (vI x1), some (vI x2), some (vI x3)] [vI x3] (sh, I, L) (0, 0) ?_
  refine hK.1 41 [some (vR 0), some (vI x1), some (vI x2), some (vI x3)] [vI x1, vI x3] (sh, I, L) (0, 0) ?_
  exact And.intro ⟨Nat.le_of_ble_eq_true rfl, Nat.le_of_ble_eq_true rfl, Nat.le_of_ble_eq_true rfl, Nat.le_of_ble_eq_true rfl⟩ k
set_option maxRecDepth 4000 in
theorem B_X11_plan_44 {Q : oQ} {K : oK} (hK : oCl tb_X11_plan Q K) {sh : oS} {I : Nat → Nat → Int} {L : Nat → Nat → Int64} {x1 : Int} {x2 : Int} {x3 : Int} {s0 : Int} {s1 : Int} (n44a : inR s0) (n44b : inR s1) (kt : s0 ≤ s1 → K 50 [some (vR 0), some (vI x1), some (vI x2), some (vI x3)] [] (sh, I, L) (0, 0)) (kf : ¬ (s0 ≤ s1) → K 47 [none, none, none, none] [] (sh, I, L) (0, 0)) : K 44 [some (vR 0), some (vI x1), some (vI x2), some (vI x3)] [vI s1, vI s0] (sh, I, L) (0, 0) := by
  refine hK.1 44 [some (vR 0), some (vI x1), some (vI x2), some (vI x3)] [vI s1, vI s0] (sh, I, L) (0, 0) ?_
  exact And.intro (And.intro n44a n44b) (And.intro (fun h => hK.2 [true, true, true, true] _ _ _ _ _ (kt h)) (fun h => hK.2 [false, false, false, false] _ _ _ _ _ (kf h)))
set_option maxRecDepth 4000 in
theorem B_X11_plan_47 {Q : oQ} {K : oK} (hK : oCl tb_X11_plan Q K) {sh : oS} {I : Nat → Nat → Int} {L : Nat → Nat → Int64}  (k : Q (some (vI (-102))) (sh, I, L)) : K 47 [none, none, none, none] [] (sh, I, L) (0, 0) := by
  refine hK.1 47 [none, none, none, none] [] (sh, I, L) (0, 0) ?_
  refine hK.1 49 [none, none, none, none] [vI (-102)] (sh, I, L) (0, 0) ?_
  exact And.intro ⟨by decide, by decide⟩ k
set_option maxRecDepth 4000 in
theorem B_X11_plan_50 {Q : oQ} {K : oK} (hK : oCl tb_X11_plan Q K) {sh : oS} {I : Nat → Nat → Int} {L : Nat → Nat → Int64} {x1 : Int} {x2 : Int} {x3 : Int} (k : T_X11_madePlan [vI x1, vI x2, vI x3] (sh, I, L) (fun r mm => K 57 [none, none, none, none] (r.toList ++ [vR 0]) mm (1, 2))) : K 50 [some (vR 0), some (vI x1), some (vI x2), some (vI x3)] [] (sh, I, L) (0, 0) := by
  refine hK.1 50 [some (vR 0), some (vI x1), some (vI x2), some (vI x3)] [] (sh, I, L) (0, 0) ?_
  refine hK.1 51 [some (vR 0), some (vI x1), some (vI x2), some (vI x3)] [vR 0] (sh, I, L) (0, 0) ?_
  refine hK.1 52 [some (vR 0), some (vI x1), some (vI x2), some (vI x3)] [vI x1, vR 0] (sh, I, L) (0, 0) ?_
  refine hK.1 53 [some (vR 0), some (vI x1), some (vI x2), some (vI x3)] [vI x2, vI x1, vR 0] (sh, I, L) (0, 0) ?_
  refine hK.2 [false, false, false, false] _ _ _ _ _ ?_
  refine hK.1 54 [none, none, none, none] [vI x3, vI x2, vI x1, vR 0] (sh, I, L) (0, 0) ?_
  exact And.intro ⟨Nat.le_of_ble_eq_true rfl, Nat.le_of_ble_eq_true rfl, Nat.le_of_ble_eq_true rfl, Nat.le_of_ble_eq_true rfl⟩ k
set_option maxRecDepth 4000 in
theorem B_X11_plan_57 {Q : oQ} {K : oK} (hK : oCl tb_X11_plan Q K) {sh : oS} (hs : Sh sh) {I : Nat → Nat → Int} {L : Nat → Nat → Int64} {s1 : Nat} (k : T_X11_added [vR 0, vR s1] (sh, I, L) (fun r mm => K 60 [none, none, none, none] (r.toList ++ []) mm (1, 2))) : K 57 [none, none, none, none] [vR s1, vR 0] (sh, I, L) (1, 2) := by
  refine hK.1 57 [none, none, none, none] [vR s1, vR 0] (sh, I, L) (1, 2) ?_
  exact And.intro ⟨(sk_0 hs), Nat.le_of_ble_eq_true rfl, Nat.le_of_ble_eq_true rfl, Nat.le_of_ble_eq_true rfl, Nat.le_of_ble_eq_true rfl⟩ k
set_option maxRecDepth 4000 in
theorem B_X11_plan_57n {Q : oQ} {K : oK} (hK : oCl tb_X11_plan Q K) {sh : oS} (hs : Sh sh) {I : Nat → Nat → Int} {L : Nat → Nat → Int64}  (k : T_X11_added [vR 0, vN] (sh, I, L) (fun r mm => K 60 [none, none, none, none] (r.toList ++ []) mm (1, 2))) : K 57 [none, none, none, none] [vN, vR 0] (sh, I, L) (1, 2) := by
  refine hK.1 57 [none, none, none, none] [vN, vR 0] (sh, I, L) (1, 2) ?_
  exact And.intro ⟨(sk_0 hs), Nat.le_of_ble_eq_true rfl, Nat.le_of_ble_eq_true rfl, Nat.le_of_ble_eq_true rfl, Nat.le_of_ble_eq_true rfl⟩ k
set_option maxRecDepth 4000 in
theorem B_X11_plan_60 {Q : oQ} {K : oK} (hK : oCl tb_X11_plan Q K) {sh : oS} {I : Nat → Nat → Int} {L : Nat → Nat → Int64} {s0 : Int} (k : Q (some (vI s0)) (sh, I, L)) : K 60 [none, none, none, none] [vI s0] (sh, I, L) (1, 2) := by
  refine hK.1 60 [none, none, none, none] [vI s0] (sh, I, L) (1, 2) ?_
  exact And.intro ⟨by decide, by decide⟩ k
set_option maxRecDepth 4000 in
theorem B_X11_restore_0 {Q : oQ} {K : oK} (hK : oCl tb_X11_restore Q K) {sh : oS} (hs : Sh sh) {I : Nat → Nat → Int} {L : Nat → Nat → Int64}  (n4 : inR (I 0 13)) (kt : I 0 13 = 0 → K 18 [none] [] (sh, I, L) (0, 0)) (kf : ¬ (I 0 13 = 0) → K 7 [some (vR 0)] [] (sh, I, L) (0, 0)) : K 0 [some (vR 0)] [] (sh, I, L) (0, 0) := by
  refine hK.1 0 [some (vR 0)] [] (sh, I, L) (0, 0) ?_
  refine hK.1 1 [some (vR 0)] [vR 0] (sh, I, L) (0, 0) ?_
  refine And.intro (mem1 (sk_0 hs)) ?_
  refine hK.1 4 [some (vR 0)] [vI (I 0 13)] (sh, I, L) (0, 0) ?_
  exact And.intro (n4) (And.intro (fun h => hK.2 [false] _ _ _ _ _ (kt h)) (fun h => hK.2 [true] _ _ _ _ _ (kf h)))
set_option maxRecDepth 4000 in
theorem B_X11_restore_7 {Q : oQ} {K : oK} (hK : oCl tb_X11_restore Q K) {sh : oS} (hs : Sh sh) {I : Nat → Nat → Int} {L : Nat → Nat → Int64}  (n15a : inR (I 0 13)) (n15b : inR (I 0 10)) (kt : I 0 13 = I 0 10 → K 21 [some (vR 0)] [] (sh, I, L) (0, 0)) (kf : ¬ (I 0 13 = I 0 10) → K 18 [none] [] (sh, I, L) (0, 0)) : K 7 [some (vR 0)] [] (sh, I, L) (0, 0) := by
  refine hK.1 7 [some (vR 0)] [] (sh, I, L) (0, 0) ?_
  refine hK.1 8 [some (vR 0)] [vR 0] (sh, I, L) (0, 0) ?_
  refine And.intro (mem1 (sk_0 hs)) ?_
  refine hK.1 11 [some (vR 0)] [vI (I 0 13)] (sh, I, L) (0, 0) ?_
  refine hK.1 12 [some (vR 0)] [vR 0, vI (I 0 13)] (sh, I, L) (0, 0) ?_
  refine And.intro (mem1 (sk_0 hs)) ?_
  refine hK.1 15 [some (vR 0)] [vI (I 0 10), vI (I 0 13)] (sh, I, L) (0, 0) ?_
  exact And.intro (And.intro n15a n15b) (And.intro (fun h => hK.2 [true] _ _ _ _ _ (kt h)) (fun h => hK.2 [false] _ _ _ _ _ (kf h)))
set_option maxRecDepth 4000 in
theorem B_X11_restore_18 {Q : oQ} {K : oK} (hK : oCl tb_X11_restore Q K) {sh : oS} {I : Nat → Nat → Int} {L : Nat → Nat → Int64}  (k : Q (some (vI (-103))) (sh, I, L)) : K 18 [none] [] (sh, I, L) (0, 0) := by
  refine hK.1 18 [none] [] (sh, I, L) (0, 0) ?_
  refine hK.1 20 [none] [vI (-103)] (sh, I, L) (0, 0) ?_
  exact And.intro ⟨by decide, by decide⟩ k
set_option maxRecDepth 4000 in
theorem B_X11_restore_21 {Q : oQ} {K : oK} (hK : oCl tb_X11_restore Q K) {sh : oS} (hs : Sh sh) {I : Nat → Nat → Int} {L : Nat → Nat → Int64}  (c36 : (0 : Int) ≤ 8 ∧ (0 : Int) ≤ 0 ∧ (0 : Int) ≤ 0 ∧ (0 : Int) + 8 ≤ 8 ∧ (0 : Int) + 8 ≤ 8) (k : T_X11_forget [vR 0] (sh, (oCpy I 23 0 4 0 8), L) (fun r mm => K 43 [some (vR 0)] (r.toList ++ []) mm (0, 0))) : K 21 [some (vR 0)] [] (sh, I, L) (0, 0) := by
  refine hK.1 21 [some (vR 0)] [] (sh, I, L) (0, 0) ?_
  refine hK.1 22 [some (vR 0)] [vR 0] (sh, I, L) (0, 0) ?_
  refine And.intro (mem1 (sk_0 hs)) (Exists.intro 23 (And.intro (sr_0_12 hs) ?_))
  refine hK.1 25 [some (vR 0)] [vR 23] (sh, I, L) (0, 0) ?_
  refine hK.1 26 [some (vR 0)] [vI 0, vR 23] (sh, I, L) (0, 0) ?_
  refine hK.1 27 [some (vR 0)] [vR 0, vI 0, vR 23] (sh, I, L) (0, 0) ?_
  refine And.intro (mem1 (sk_0 hs)) (Exists.intro 3 (And.intro (sr_0_1 hs) ?_))
  refine hK.1 30 [some (vR 0)] [vR 3, vI 0, vR 23] (sh, I, L) (0, 0) ?_
  refine And.intro (mem1 (sk_3 hs)) (Exists.intro 4 (And.intro (sr_3_1 hs) ?_))
  refine hK.1 33 [some (vR 0)] [vR 4, vI 0, vR 23] (sh, I, L) (0, 0) ?_
  refine hK.1 34 [some (vR 0)] [vI 0, vR 4, vI 0, vR 23] (sh, I, L) (0, 0) ?_
  refine hK.1 36 [some (vR 0)] [vI 8, vI 0, vR 4, vI 0, vR 23] (sh, I, L) (0, 0) ?_
  refine And.intro ⟨sk_23 hs, sk_4 hs, c36.1, c36.2.1, c36.2.2.1, cpL (sl_23 hs) c36.2.2.2.1, cpL (sl_4 hs) c36.2.2.2.2, Nat.le_of_ble_eq_true rfl⟩ ?_
  refine hK.1 39 [some (vR 0)] [] (sh, (oCpy I 23 0 4 0 8), L) (0, 0) ?_
  refine hK.1 40 [some (vR 0)] [vR 0] (sh, (oCpy I 23 0 4 0 8), L) (0, 0) ?_
  exact And.intro ⟨(sk_0 hs), Nat.le_of_ble_eq_true rfl, Nat.le_of_ble_eq_true rfl, Nat.le_of_ble_eq_true rfl, Nat.le_of_ble_eq_true rfl⟩ k
set_option maxRecDepth 4000 in
theorem B_X11_restore_43 {Q : oQ} {K : oK} (hK : oCl tb_X11_restore Q K) {sh : oS} (hs : Sh sh) {I : Nat → Nat → Int} {L : Nat → Nat → Int64}  (k : T_X4_allFlour [vR 3] (sh, I, L) (fun r mm => K 50 [none] (r.toList ++ []) mm (0, 0))) : K 43 [some (vR 0)] [] (sh, I, L) (0, 0) := by
  refine hK.1 43 [some (vR 0)] [] (sh, I, L) (0, 0) ?_
  refine hK.1 44 [some (vR 0)] [vR 0] (sh, I, L) (0, 0) ?_
  refine And.intro (mem1 (sk_0 hs)) (Exists.intro 3 (And.intro (sr_0_1 hs) ?_))
  refine hK.2 [false] _ _ _ _ _ ?_
  refine hK.1 47 [none] [vR 3] (sh, I, L) (0, 0) ?_
  exact And.intro ⟨(sk_3 hs), Nat.le_of_ble_eq_true rfl, Nat.le_of_ble_eq_true rfl, Nat.le_of_ble_eq_true rfl, Nat.le_of_ble_eq_true rfl⟩ k
set_option maxRecDepth 4000 in
theorem B_X11_restore_50 {Q : oQ} {K : oK} (hK : oCl tb_X11_restore Q K) {sh : oS} {I : Nat → Nat → Int} {L : Nat → Nat → Int64} {s0 : Int} (k : Q (some (vI s0)) (sh, I, L)) : K 50 [none] [vI s0] (sh, I, L) (0, 0) := by
  refine hK.1 50 [none] [vI s0] (sh, I, L) (0, 0) ?_
  exact And.intro ⟨by decide, by decide⟩ k
set_option maxRecDepth 4000 in
theorem B_X11_seedBehind_0 {Q : oQ} {K : oK} (hK : oCl tb_X11_seedBehind Q K) {sh : oS} {I : Nat → Nat → Int} {L : Nat → Nat → Int64} {x0 : Int} (k : Q (some (vI ((Int64.toInt32 (gAnd (gAdd (gMul 1103515245 ((Int32.ofInt x0).toInt64)) 12345) 2147483647)).toInt))) (sh, I, L)) : K 0 [some (vI x0)] [] (sh, I, L) (0, 0) := by
  refine hK.1 0 [some (vI x0)] [] (sh, I, L) (0, 0) ?_
  refine hK.1 3 [some (vI x0)] [vL 1103515245] (sh, I, L) (0, 0) ?_
  refine hK.1 4 [some (vI x0)] [vI x0, vL 1103515245] (sh, I, L) (0, 0) ?_
  refine hK.1 5 [some (vI x0)] [vL ((Int32.ofInt x0).toInt64), vL 1103515245] (sh, I, L) (0, 0) ?_
  refine hK.1 6 [some (vI x0)] [vL (gMul 1103515245 ((Int32.ofInt x0).toInt64))] (sh, I, L) (0, 0) ?_
  refine hK.1 9 [some (vI x0)] [vL 12345, vL (gMul 1103515245 ((Int32.ofInt x0).toInt64))] (sh, I, L) (0, 0) ?_
  refine hK.1 10 [some (vI x0)] [vL (gAdd (gMul 1103515245 ((Int32.ofInt x0).toInt64)) 12345)] (sh, I, L) (0, 0) ?_
  refine hK.1 13 [some (vI x0)] [vL 2147483647, vL (gAdd (gMul 1103515245 ((Int32.ofInt x0).toInt64)) 12345)] (sh, I, L) (0, 0) ?_
  refine hK.1 14 [some (vI x0)] [vL (gAnd (gAdd (gMul 1103515245 ((Int32.ofInt x0).toInt64)) 12345) 2147483647)] (sh, I, L) (0, 0) ?_
  refine hK.1 15 [some (vI x0)] [vI ((Int64.toInt32 (gAnd (gAdd (gMul 1103515245 ((Int32.ofInt x0).toInt64)) 12345) 2147483647)).toInt)] (sh, I, L) (0, 0) ?_
  exact And.intro ⟨by decide, by decide⟩ k
set_option maxRecDepth 4000 in
theorem B_X11_run_0 {Q : oQ} {K : oK} (hK : oCl tb_X11_run Q K) {sh : oS} (hs : Sh sh) {I : Nat → Nat → Int} {L : Nat → Nat → Int64} {x1 : Int} {x2 : Int} {x3 : Int} {x4 : Int} (k : T_X11_refusal [vR 0, vI x1, vI x2] (sh, I, L) (fun r mm => K 6 [some (vR 0), some (vI x1), some (vI x2), some (vI x3), some (vI x4), none, none, none, none, none] (r.toList ++ []) mm (0, 0))) : K 0 [some (vR 0), some (vI x1), some (vI x2), some (vI x3), some (vI x4), none, none, none, none, none] [] (sh, I, L) (0, 0) := by
  refine hK.1 0 [some (vR 0), some (vI x1), some (vI x2), some (vI x3), some (vI x4), none, none, none, none, none] [] (sh, I, L) (0, 0) ?_
  refine hK.1 1 [some (vR 0), some (vI x1), some (vI x2), some (vI x3), some (vI x4), none, none, none, none, none] [vR 0] (sh, I, L) (0, 0) ?_
  refine hK.1 2 [some (vR 0), some (vI x1), some (vI x2), some (vI x3), some (vI x4), none, none, none, none, none] [vI x1, vR 0] (sh, I, L) (0, 0) ?_
  refine hK.1 3 [some (vR 0), some (vI x1), some (vI x2), some (vI x3), some (vI x4), none, none, none, none, none] [vI x2, vI x1, vR 0] (sh, I, L) (0, 0) ?_
  exact And.intro ⟨(sk_0 hs), Nat.le_of_ble_eq_true rfl, Nat.le_of_ble_eq_true rfl, Nat.le_of_ble_eq_true rfl, Nat.le_of_ble_eq_true rfl⟩ k
set_option maxRecDepth 4000 in
theorem B_X11_run_6 {Q : oQ} {K : oK} (hK : oCl tb_X11_run Q K) {sh : oS} {I : Nat → Nat → Int} {L : Nat → Nat → Int64} {x1 : Int} {x2 : Int} {x3 : Int} {x4 : Int} {s0 : Int} (n10 : inR s0) (kt : s0 = 0 → K 16 [some (vR 0), some (vI x1), some (vI x2), some (vI x3), some (vI x4), none, none, none, none, none] [] (sh, I, L) (0, 0)) (kf : ¬ (s0 = 0) → K 13 [none, none, none, none, none, some (vI s0), none, none, none, none] [] (sh, I, L) (0, 0)) : K 6 [some (vR 0), some (vI x1), some (vI x2), some (vI x3), some (vI x4), none, none, none, none, none] [vI s0] (sh, I, L) (0, 0) := by
  refine hK.1 6 [some (vR 0), some (vI x1), some (vI x2), some (vI x3), some (vI x4), none, none, none, none, none] [vI s0] (sh, I, L) (0, 0) ?_
  refine hK.1 8 [some (vR 0), some (vI x1), some (vI x2), some (vI x3), some (vI x4), some (vI s0), none, none, none, none] [] (sh, I, L) (0, 0) ?_
  refine hK.1 10 [some (vR 0), some (vI x1), some (vI x2), some (vI x3), some (vI x4), some (vI s0), none, none, none, none] [vI s0] (sh, I, L) (0, 0) ?_
  exact And.intro (n10) (And.intro (fun h => hK.2 [true, true, true, true, true, false, false, false, false, false] _ _ _ _ _ (kt h)) (fun h => hK.2 [false, false, false, false, false, true, false, false, false, false] _ _ _ _ _ (kf h)))
set_option maxRecDepth 4000 in
theorem B_X11_run_13 {Q : oQ} {K : oK} (hK : oCl tb_X11_run Q K) {sh : oS} {I : Nat → Nat → Int} {L : Nat → Nat → Int64} {x5 : Int} (k : Q (some (vI x5)) (sh, I, L)) : K 13 [none, none, none, none, none, some (vI x5), none, none, none, none] [] (sh, I, L) (0, 0) := by
  refine hK.1 13 [none, none, none, none, none, some (vI x5), none, none, none, none] [] (sh, I, L) (0, 0) ?_
  refine hK.1 15 [none, none, none, none, none, some (vI x5), none, none, none, none] [vI x5] (sh, I, L) (0, 0) ?_
  exact And.intro ⟨by decide, by decide⟩ k
set_option maxRecDepth 4000 in
theorem B_X11_run_16 {Q : oQ} {K : oK} (hK : oCl tb_X11_run Q K) {sh : oS} {I : Nat → Nat → Int} {L : Nat → Nat → Int64} {x1 : Int} {x2 : Int} {x3 : Int} {x4 : Int} (n17 : inR x3) (kt : x3 < 0 → K 31 [none, none, none, none, none, none, none, none, none, none] [] (sh, I, L) (0, 0)) (kf : ¬ (x3 < 0) → K 20 [some (vR 0), some (vI x1), some (vI x2), some (vI x3), some (vI x4), none, none, none, none, none] [] (sh, I, L) (0, 0)) : K 16 [some (vR 0), some (vI x1), some (vI x2), some (vI x3), some (vI x4), none, none, none, none, none] [] (sh, I, L) (0, 0) := by
  refine hK.1 16 [some (vR 0), some (vI x1), some (vI x2), some (vI x3), some (vI x4), none, none, none, none, none] [] (sh, I, L) (0, 0) ?_
  refine hK.1 17 [some (vR 0), some (vI x1), some (vI x2), some (vI x3), some (vI x4), none, none, none, none, none] [vI x3] (sh, I, L) (0, 0) ?_
  exact And.intro (n17) (And.intro (fun h => hK.2 [false, false, false, false, false, false, false, false, false, false] _ _ _ _ _ (kt h)) (fun h => hK.2 [true, true, true, true, true, false, false, false, false, false] _ _ _ _ _ (kf h)))
set_option maxRecDepth 4000 in
theorem B_X11_run_20 {Q : oQ} {K : oK} (hK : oCl tb_X11_run Q K) {sh : oS} {I : Nat → Nat → Int} {L : Nat → Nat → Int64} {x1 : Int} {x2 : Int} {x3 : Int} {x4 : Int} (n22 : inR x4) (kt : x4 < 0 → K 31 [none, none, none, none, none, none, none, none, none, none] [] (sh, I, L) (0, 0)) (kf : ¬ (x4 < 0) → K 25 [some (vR 0), some (vI x1), some (vI x2), some (vI x3), some (vI x4), none, none, none, none, none] [] (sh, I, L) (0, 0)) : K 20 [some (vR 0), some (vI x1), some (vI x2), some (vI x3), some (vI x4), none, none, none, none, none] [] (sh, I, L) (0, 0) := by
  refine hK.1 20 [some (vR 0), some (vI x1), some (vI x2), some (vI x3), some (vI x4), none, none, none, none, none] [] (sh, I, L) (0, 0) ?_
  refine hK.1 22 [some (vR 0), some (vI x1), some (vI x2), some (vI x3), some (vI x4), none, none, none, none, none] [vI x4] (sh, I, L) (0, 0) ?_
  exact And.intro (n22) (And.intro (fun h => hK.2 [false, false, false, false, false, false, false, false, false, false] _ _ _ _ _ (kt h)) (fun h => hK.2 [true, true, true, true, true, false, false, false, false, false] _ _ _ _ _ (kf h)))
set_option maxRecDepth 4000 in
theorem B_X11_run_25 {Q : oQ} {K : oK} (hK : oCl tb_X11_run Q K) {sh : oS} {I : Nat → Nat → Int} {L : Nat → Nat → Int64} {x1 : Int} {x2 : Int} {x3 : Int} {x4 : Int} (n28a : inR x4) (kt : x4 ≤ 2 → K 34 [some (vR 0), some (vI x1), some (vI x2), some (vI x3), some (vI x4), none, none, none, none, none] [] (sh, I, L) (0, 0)) (kf : ¬ (x4 ≤ 2) → K 31 [none, none, none, none, none, none, none, none, none, none] [] (sh, I, L) (0, 0)) : K 25 [some (vR 0), some (vI x1), some (vI x2), some (vI x3), some (vI x4), none, none, none, none, none] [] (sh, I, L) (0, 0) := by
  refine hK.1 25 [some (vR 0), some (vI x1), some (vI x2), some (vI x3), some (vI x4), none, none, none, none, none] [] (sh, I, L) (0, 0) ?_
  refine hK.1 27 [some (vR 0), some (vI x1), some (vI x2), some (vI x3), some (vI x4), none, none, none, none, none] [vI x4] (sh, I, L) (0, 0) ?_
  refine hK.1 28 [some (vR 0), some (vI x1), some (vI x2), some (vI x3), some (vI x4), none, none, none, none, none] [vI 2, vI x4] (sh, I, L) (0, 0) ?_
  exact And.intro (And.intro n28a ⟨by decide, by decide⟩) (And.intro (fun h => hK.2 [true, true, true, true, true, false, false, false, false, false] _ _ _ _ _ (kt h)) (fun h => hK.2 [false, false, false, false, false, false, false, false, false, false] _ _ _ _ _ (kf h)))
set_option maxRecDepth 4000 in
theorem B_X11_run_31 {Q : oQ} {K : oK} (hK : oCl tb_X11_run Q K) {sh : oS} {I : Nat → Nat → Int} {L : Nat → Nat → Int64}  (k : Q (some (vI (-102))) (sh, I, L)) : K 31 [none, none, none, none, none, none, none, none, none, none] [] (sh, I, L) (0, 0) := by
  refine hK.1 31 [none, none, none, none, none, none, none, none, none, none] [] (sh, I, L) (0, 0) ?_
  refine hK.1 33 [none, none, none, none, none, none, none, none, none, none] [vI (-102)] (sh, I, L) (0, 0) ?_
  exact And.intro ⟨by decide, by decide⟩ k
set_option maxRecDepth 4000 in
theorem B_X11_run_34 {Q : oQ} {K : oK} (hK : oCl tb_X11_run Q K) {sh : oS} (hs : Sh sh) {I : Nat → Nat → Int} {L : Nat → Nat → Int64} {x1 : Int} {x2 : Int} {x3 : Int} {x4 : Int} {q39 : Nat} (b39 : 0 ≤ x2 ∧ x2 < 4) (r39 : sR sh 9 (x2.toNat) = some q39) (k : K 51 [some (vR 0), some (vI x1), some (vI x2), none, some (vI x4), none, some (vR q39), some (vI 0), some (vI x3), some (vI 0)] [] (sh, I, L) (0, 0)) : K 34 [some (vR 0), some (vI x1), some (vI x2), some (vI x3), some (vI x4), none, none, none, none, none] [] (sh, I, L) (0, 0) := by
  refine hK.1 34 [some (vR 0), some (vI x1), some (vI x2), some (vI x3), some (vI x4), none, none, none, none, none] [] (sh, I, L) (0, 0) ?_
  refine hK.1 35 [some (vR 0), some (vI x1), some (vI x2), some (vI x3), some (vI x4), none, none, none, none, none] [vR 0] (sh, I, L) (0, 0) ?_
  refine And.intro (mem1 (sk_0 hs)) (Exists.intro 9 (And.intro (sr_0_3 hs) ?_))
  refine hK.1 38 [some (vR 0), some (vI x1), some (vI x2), some (vI x3), some (vI x4), none, none, none, none, none] [vR 9] (sh, I, L) (0, 0) ?_
  refine hK.1 39 [some (vR 0), some (vI x1), some (vI x2), some (vI x3), some (vI x4), none, none, none, none, none] [vI x2, vR 9] (sh, I, L) (0, 0) ?_
  refine And.intro (And.intro (sk_9 hs) (ixL (sl_9 hs) b39)) (Exists.intro q39 (And.intro r39 ?_))
  refine hK.1 40 [some (vR 0), some (vI x1), some (vI x2), some (vI x3), some (vI x4), none, none, none, none, none] [vR q39] (sh, I, L) (0, 0) ?_
  refine hK.1 42 [some (vR 0), some (vI x1), some (vI x2), some (vI x3), some (vI x4), none, some (vR q39), none, none, none] [] (sh, I, L) (0, 0) ?_
  refine hK.1 43 [some (vR 0), some (vI x1), some (vI x2), some (vI x3), some (vI x4), none, some (vR q39), none, none, none] [vI 0] (sh, I, L) (0, 0) ?_
  refine hK.1 45 [some (vR 0), some (vI x1), some (vI x2), some (vI x3), some (vI x4), none, some (vR q39), some (vI 0), none, none] [] (sh, I, L) (0, 0) ?_
  refine hK.1 46 [some (vR 0), some (vI x1), some (vI x2), some (vI x3), some (vI x4), none, some (vR q39), some (vI 0), none, none] [vI x3] (sh, I, L) (0, 0) ?_
  refine hK.1 48 [some (vR 0), some (vI x1), some (vI x2), some (vI x3), some (vI x4), none, some (vR q39), some (vI 0), some (vI x3), none] [] (sh, I, L) (0, 0) ?_
  refine hK.1 49 [some (vR 0), some (vI x1), some (vI x2), some (vI x3), some (vI x4), none, some (vR q39), some (vI 0), some (vI x3), none] [vI 0] (sh, I, L) (0, 0) ?_
  refine hK.2 [true, true, true, false, true, false, true, true, true, true] _ _ _ _ _ ?_
  exact k
set_option maxRecDepth 4000 in
theorem B_X11_run_51 {Q : oQ} {K : oK} (hK : oCl tb_X11_run Q K) {sh : oS} {I : Nat → Nat → Int} {L : Nat → Nat → Int64} {x1 : Int} {x2 : Int} {x4 : Int} {h6 : Nat} {x7 : Int} {x8 : Int} {x9 : Int} {h6e h6p h6t : Nat} (Ah6 : MarchAt sh h6 h6e h6p h6t) (n58a : inR x9) (n58b : inR (I h6 1)) (kt : I h6 1 ≤ x9 → K 102 [some (vR 0), some (vI x1), some (vI x2), none, some (vI x4), none, none, some (vI x7), some (vI x8), none] [] (sh, I, L) (0, 0)) (kf : ¬ (I h6 1 ≤ x9) → K 61 [some (vR 0), some (vI x1), some (vI x2), none, some (vI x4), none, some (vR h6), some (vI x7), some (vI x8), some (vI x9)] [] (sh, I, L) (0, 0)) : K 51 [some (vR 0), some (vI x1), some (vI x2), none, some (vI x4), none, some (vR h6), some (vI x7), some (vI x8), some (vI x9)] [] (sh, I, L) (0, 0) := by
  refine hK.1 51 [some (vR 0), some (vI x1), some (vI x2), none, some (vI x4), none, some (vR h6), some (vI x7), some (vI x8), some (vI x9)] [] (sh, I, L) (0, 0) ?_
  refine hK.1 53 [some (vR 0), some (vI x1), some (vI x2), none, some (vI x4), none, some (vR h6), some (vI x7), some (vI x8), some (vI x9)] [vI x9] (sh, I, L) (0, 0) ?_
  refine hK.1 55 [some (vR 0), some (vI x1), some (vI x2), none, some (vI x4), none, some (vR h6), some (vI x7), some (vI x8), some (vI x9)] [vR h6, vI x9] (sh, I, L) (0, 0) ?_
  refine And.intro (mem1 Ah6.1) ?_
  refine hK.1 58 [some (vR 0), some (vI x1), some (vI x2), none, some (vI x4), none, some (vR h6), some (vI x7), some (vI x8), some (vI x9)] [vI (I h6 1), vI x9] (sh, I, L) (0, 0) ?_
  exact And.intro (And.intro n58a n58b) (And.intro (fun h => hK.2 [true, true, true, false, true, false, false, true, true, false] _ _ _ _ _ (kt h)) (fun h => hK.2 [true, true, true, false, true, false, true, true, true, true] _ _ _ _ _ (kf h)))
set_option maxRecDepth 4000 in
theorem B_X11_run_61 {Q : oQ} {K : oK} (hK : oCl tb_X11_run Q K) {sh : oS} {I : Nat → Nat → Int} {L : Nat → Nat → Int64} {x1 : Int} {x2 : Int} {x4 : Int} {h6 : Nat} {x7 : Int} {x8 : Int} {x9 : Int} (k : T_X11_seedBehind [vI x8] (sh, I, L) (fun r mm => K 66 [some (vR 0), some (vI x1), some (vI x2), none, some (vI x4), none, some (vR h6), some (vI x7), none, some (vI x9)] (r.toList ++ []) mm (0, 0))) : K 61 [some (vR 0), some (vI x1), some (vI x2), none, some (vI x4), none, some (vR h6), some (vI x7), some (vI x8), some (vI x9)] [] (sh, I, L) (0, 0) := by
  refine hK.1 61 [some (vR 0), some (vI x1), some (vI x2), none, some (vI x4), none, some (vR h6), some (vI x7), some (vI x8), some (vI x9)] [] (sh, I, L) (0, 0) ?_
  refine hK.2 [true, true, true, false, true, false, true, true, false, true] _ _ _ _ _ ?_
  refine hK.1 63 [some (vR 0), some (vI x1), some (vI x2), none, some (vI x4), none, some (vR h6), some (vI x7), none, some (vI x9)] [vI x8] (sh, I, L) (0, 0) ?_
  exact And.intro ⟨Nat.le_of_ble_eq_true rfl, Nat.le_of_ble_eq_true rfl, Nat.le_of_ble_eq_true rfl, Nat.le_of_ble_eq_true rfl⟩ k
set_option maxRecDepth 4000 in
theorem B_X11_run_66 {Q : oQ} {K : oK} (hK : oCl tb_X11_run Q K) {sh : oS} {I : Nat → Nat → Int} {L : Nat → Nat → Int64} {x1 : Int} {x2 : Int} {x4 : Int} {h6 : Nat} {x7 : Int} {x9 : Int} {s0 : Int} {h6e h6p h6t : Nat} (n72a : inR s0) (n75a : inR (s0.tdiv 65536)) (Ah6 : MarchAt sh h6 h6e h6p h6t) (b83 : 0 ≤ x9 ∧ x9 < 2) (n84a : inR ((s0.tdiv 65536).tmod 10)) (n84b : inR (I h6t (x9.toNat))) (kt : I h6t (x9.toNat) ≤ (s0.tdiv 65536).tmod 10 → K 96 [some (vR 0), some (vI x1), some (vI x2), none, some (vI x4), none, some (vR h6), some (vI x7), some (vI s0), some (vI x9)] [] (sh, I, L) (0, 0)) (kf : ¬ (I h6t (x9.toNat) ≤ (s0.tdiv 65536).tmod 10) → K 87 [some (vR 0), some (vI x1), some (vI x2), none, some (vI x4), none, some (vR h6), some (vI x7), some (vI s0), some (vI x9)] [] (sh, I, L) (0, 0)) : K 66 [some (vR 0), some (vI x1), some (vI x2), none, some (vI x4), none, some (vR h6), some (vI x7), none, some (vI x9)] [vI s0] (sh, I, L) (0, 0) := by
  refine hK.1 66 [some (vR 0), some (vI x1), some (vI x2), none, some (vI x4), none, some (vR h6), some (vI x7), none, some (vI x9)] [vI s0] (sh, I, L) (0, 0) ?_
  refine hK.1 68 [some (vR 0), some (vI x1), some (vI x2), none, some (vI x4), none, some (vR h6), some (vI x7), some (vI s0), some (vI x9)] [] (sh, I, L) (0, 0) ?_
  refine hK.1 70 [some (vR 0), some (vI x1), some (vI x2), none, some (vI x4), none, some (vR h6), some (vI x7), some (vI s0), some (vI x9)] [vI s0] (sh, I, L) (0, 0) ?_
  refine hK.1 72 [some (vR 0), some (vI x1), some (vI x2), none, some (vI x4), none, some (vR h6), some (vI x7), some (vI s0), some (vI x9)] [vI 65536, vI s0] (sh, I, L) (0, 0) ?_
  refine And.intro (And.intro n72a (And.intro ⟨by decide, by decide⟩ (by decide))) ?_
  refine hK.1 73 [some (vR 0), some (vI x1), some (vI x2), none, some (vI x4), none, some (vR h6), some (vI x7), some (vI s0), some (vI x9)] [vI (s0.tdiv 65536)] (sh, I, L) (0, 0) ?_
  refine hK.1 75 [some (vR 0), some (vI x1), some (vI x2), none, some (vI x4), none, some (vR h6), some (vI x7), some (vI s0), some (vI x9)] [vI 10, vI (s0.tdiv 65536)] (sh, I, L) (0, 0) ?_
  refine And.intro (And.intro n75a (And.intro ⟨by decide, by decide⟩ (by decide))) ?_
  refine hK.1 76 [some (vR 0), some (vI x1), some (vI x2), none, some (vI x4), none, some (vR h6), some (vI x7), some (vI s0), some (vI x9)] [vI ((s0.tdiv 65536).tmod 10)] (sh, I, L) (0, 0) ?_
  refine hK.1 78 [some (vR 0), some (vI x1), some (vI x2), none, some (vI x4), none, some (vR h6), some (vI x7), some (vI s0), some (vI x9)] [vR h6, vI ((s0.tdiv 65536).tmod 10)] (sh, I, L) (0, 0) ?_
  refine And.intro (mem1 Ah6.1) (Exists.intro h6t (And.intro Ah6.2.2.2.1 ?_))
  refine hK.1 81 [some (vR 0), some (vI x1), some (vI x2), none, some (vI x4), none, some (vR h6), some (vI x7), some (vI s0), some (vI x9)] [vR h6t, vI ((s0.tdiv 65536).tmod 10)] (sh, I, L) (0, 0) ?_
  refine hK.1 83 [some (vR 0), some (vI x1), some (vI x2), none, some (vI x4), none, some (vR h6), some (vI x7), some (vI s0), some (vI x9)] [vI x9, vR h6t, vI ((s0.tdiv 65536).tmod 10)] (sh, I, L) (0, 0) ?_
  refine And.intro (And.intro (Ah6.2.2.2.2.2.2.1) (ixL (Ah6.2.2.2.2.2.2.2) b83)) ?_
  refine hK.1 84 [some (vR 0), some (vI x1), some (vI x2), none, some (vI x4), none, some (vR h6), some (vI x7), some (vI s0), some (vI x9)] [vI (I h6t (x9.toNat)), vI ((s0.tdiv 65536).tmod 10)] (sh, I, L) (0, 0) ?_
  exact And.intro (And.intro n84a n84b) (And.intro (fun h => hK.2 [true, true, true, false, true, false, true, true, true, true] _ _ _ _ _ (kt h)) (fun h => hK.2 [true, true, true, false, true, false, true, true, true, true] _ _ _ _ _ (kf h)))
set_option maxRecDepth 4000 in
theorem B_X11_run_87 {Q : oQ} {K : oK} (hK : oCl tb_X11_run Q K) {sh : oS} {I : Nat → Nat → Int} {L : Nat → Nat → Int64} {x1 : Int} {x2 : Int} {x4 : Int} {h6 : Nat} {x7 : Int} {x8 : Int} {x9 : Int} (k : K 96 [some (vR 0), some (vI x1), some (vI x2), none, some (vI x4), none, some (vR h6), some (vI (fOr x7 (fShl 1 x9))), some (vI x8), some (vI x9)] [] (sh, I, L) (0, 0)) : K 87 [some (vR 0), some (vI x1), some (vI x2), none, some (vI x4), none, some (vR h6), some (vI x7), some (vI x8), some (vI x9)] [] (sh, I, L) (0, 0) := by
  refine hK.1 87 [some (vR 0), some (vI x1), some (vI x2), none, some (vI x4), none, some (vR h6), some (vI x7), some (vI x8), some (vI x9)] [] (sh, I, L) (0, 0) ?_
  refine hK.1 89 [some (vR 0), some (vI x1), some (vI x2), none, some (vI x4), none, some (vR h6), some (vI x7), some (vI x8), some (vI x9)] [vI x7] (sh, I, L) (0, 0) ?_
  refine hK.1 90 [some (vR 0), some (vI x1), some (vI x2), none, some (vI x4), none, some (vR h6), some (vI x7), some (vI x8), some (vI x9)] [vI 1, vI x7] (sh, I, L) (0, 0) ?_
  refine hK.1 92 [some (vR 0), some (vI x1), some (vI x2), none, some (vI x4), none, some (vR h6), some (vI x7), some (vI x8), some (vI x9)] [vI x9, vI 1, vI x7] (sh, I, L) (0, 0) ?_
  refine hK.1 93 [some (vR 0), some (vI x1), some (vI x2), none, some (vI x4), none, some (vR h6), some (vI x7), some (vI x8), some (vI x9)] [vI (fShl 1 x9), vI x7] (sh, I, L) (0, 0) ?_
  refine hK.1 94 [some (vR 0), some (vI x1), some (vI x2), none, some (vI x4), none, some (vR h6), some (vI x7), some (vI x8), some (vI x9)] [vI (fOr x7 (fShl 1 x9))] (sh, I, L) (0, 0) ?_
  exact k
set_option maxRecDepth 4000 in
theorem B_X11_run_96 {Q : oQ} {K : oK} (hK : oCl tb_X11_run Q K) {sh : oS} {I : Nat → Nat → Int} {L : Nat → Nat → Int64} {x1 : Int} {x2 : Int} {x4 : Int} {h6 : Nat} {x7 : Int} {x8 : Int} {x9 : Int} (k : K 51 [some (vR 0), some (vI x1), some (vI x2), none, some (vI x4), none, some (vR h6), some (vI x7), some (vI x8), some (vI (x9 + 1))] [] (sh, I, L) (0, 0)) : K 96 [some (vR 0), some (vI x1), some (vI x2), none, some (vI x4), none, some (vR h6), some (vI x7), some (vI x8), some (vI x9)] [] (sh, I, L) (0, 0) := by
  refine hK.1 96 [some (vR 0), some (vI x1), some (vI x2), none, some (vI x4), none, some (vR h6), some (vI x7), some (vI x8), some (vI x9)] [] (sh, I, L) (0, 0) ?_
  refine hK.1 99 [some (vR 0), some (vI x1), some (vI x2), none, some (vI x4), none, some (vR h6), some (vI x7), some (vI x8), some (vI (x9 + 1))] [] (sh, I, L) (0, 0) ?_
  exact k
set_option maxRecDepth 4000 in
theorem B_X11_run_102 {Q : oQ} {K : oK} (hK : oCl tb_X11_run Q K) {sh : oS} {I : Nat → Nat → Int} {L : Nat → Nat → Int64} {x1 : Int} {x2 : Int} {x4 : Int} {x7 : Int} {x8 : Int} (n105a : inR x4) (kt : ¬ x4 = 2 → K 111 [some (vR 0), some (vI x1), some (vI x2), none, some (vI x4), none, none, some (vI x7), none, none] [] (sh, I, L) (0, 0)) (kf : ¬ (¬ x4 = 2) → K 108 [none, none, none, none, none, none, none, none, some (vI x8), none] [] (sh, I, L) (0, 0)) : K 102 [some (vR 0), some (vI x1), some (vI x2), none, some (vI x4), none, none, some (vI x7), some (vI x8), none] [] (sh, I, L) (0, 0) := by
  refine hK.1 102 [some (vR 0), some (vI x1), some (vI x2), none, some (vI x4), none, none, some (vI x7), some (vI x8), none] [] (sh, I, L) (0, 0) ?_
  refine hK.1 104 [some (vR 0), some (vI x1), some (vI x2), none, some (vI x4), none, none, some (vI x7), some (vI x8), none] [vI x4] (sh, I, L) (0, 0) ?_
  refine hK.1 105 [some (vR 0), some (vI x1), some (vI x2), none, some (vI x4), none, none, some (vI x7), some (vI x8), none] [vI 2, vI x4] (sh, I, L) (0, 0) ?_
  exact And.intro (And.intro n105a ⟨by decide, by decide⟩) (And.intro (fun h => hK.2 [true, true, true, false, true, false, false, true, false, false] _ _ _ _ _ (kt h)) (fun h => hK.2 [false, false, false, false, false, false, false, false, true, false] _ _ _ _ _ (kf h)))
set_option maxRecDepth 4000 in
theorem B_X11_run_108 {Q : oQ} {K : oK} (hK : oCl tb_X11_run Q K) {sh : oS} {I : Nat → Nat → Int} {L : Nat → Nat → Int64} {x8 : Int} (k : Q (some (vI x8)) (sh, I, L)) : K 108 [none, none, none, none, none, none, none, none, some (vI x8), none] [] (sh, I, L) (0, 0) := by
  refine hK.1 108 [none, none, none, none, none, none, none, none, some (vI x8), none] [] (sh, I, L) (0, 0) ?_
  refine hK.1 110 [none, none, none, none, none, none, none, none, some (vI x8), none] [vI x8] (sh, I, L) (0, 0) ?_
  exact And.intro ⟨by decide, by decide⟩ k
set_option maxRecDepth 4000 in
theorem B_X11_run_111 {Q : oQ} {K : oK} (hK : oCl tb_X11_run Q K) {sh : oS} {I : Nat → Nat → Int} {L : Nat → Nat → Int64} {x1 : Int} {x2 : Int} {x4 : Int} {x7 : Int} (n113 : inR x4) (kt : ¬ x4 = 0 → K 121 [some (vR 0), some (vI x1), some (vI x2), none, none, none, none, some (vI x7), none, none] [] (sh, I, L) (0, 0)) (kf : ¬ (¬ x4 = 0) → K 116 [none, none, none, none, none, none, none, some (vI x7), none, none] [] (sh, I, L) (0, 0)) : K 111 [some (vR 0), some (vI x1), some (vI x2), none, some (vI x4), none, none, some (vI x7), none, none] [] (sh, I, L) (0, 0) := by
  refine hK.1 111 [some (vR 0), some (vI x1), some (vI x2), none, some (vI x4), none, none, some (vI x7), none, none] [] (sh, I, L) (0, 0) ?_
  refine hK.1 113 [some (vR 0), some (vI x1), some (vI x2), none, some (vI x4), none, none, some (vI x7), none, none] [vI x4] (sh, I, L) (0, 0) ?_
  exact And.intro (n113) (And.intro (fun h => hK.2 [true, true, true, false, false, false, false, true, false, false] _ _ _ _ _ (kt h)) (fun h => hK.2 [false, false, false, false, false, false, false, true, false, false] _ _ _ _ _ (kf h)))
set_option maxRecDepth 4000 in
theorem B_X11_run_116 {Q : oQ} {K : oK} (hK : oCl tb_X11_run Q K) {sh : oS} {I : Nat → Nat → Int} {L : Nat → Nat → Int64} {x7 : Int} (k : K 134 [none, none, none, none, none, none, none, none, none, none] [vI x7] (sh, I, L) (0, 0)) : K 116 [none, none, none, none, none, none, none, some (vI x7), none, none] [] (sh, I, L) (0, 0) := by
  refine hK.1 116 [none, none, none, none, none, none, none, some (vI x7), none, none] [] (sh, I, L) (0, 0) ?_
  refine hK.1 118 [none, none, none, none, none, none, none, some (vI x7), none, none] [vI x7] (sh, I, L) (0, 0) ?_
  refine hK.2 [false, false, false, false, false, false, false, false, false, false] _ _ _ _ _ ?_
  exact k
set_option maxRecDepth 4000 in
theorem B_X11_run_121 {Q : oQ} {K : oK} (hK : oCl tb_X11_run Q K) {sh : oS} (hs : Sh sh) {I : Nat → Nat → Int} {L : Nat → Nat → Int64} {x1 : Int} {x2 : Int} {x7 : Int} (k : T_X11_solved [vR 0, vI x1, vI x2, vI x7] (sh, I, L) (fun r mm => K 133 [none, none, none, none, none, none, none, none, none, none] (r.toList ++ [vR 41]) mm (0, 0))) : K 121 [some (vR 0), some (vI x1), some (vI x2), none, none, none, none, some (vI x7), none, none] [] (sh, I, L) (0, 0) := by
  refine hK.1 121 [some (vR 0), some (vI x1), some (vI x2), none, none, none, none, some (vI x7), none, none] [] (sh, I, L) (0, 0) ?_
  refine hK.1 122 [some (vR 0), some (vI x1), some (vI x2), none, none, none, none, some (vI x7), none, none] [vR 0] (sh, I, L) (0, 0) ?_
  refine And.intro (mem1 (sk_0 hs)) (Exists.intro 41 (And.intro (sr_0_15 hs) ?_))
  refine hK.1 125 [some (vR 0), some (vI x1), some (vI x2), none, none, none, none, some (vI x7), none, none] [vR 41] (sh, I, L) (0, 0) ?_
  refine hK.1 126 [some (vR 0), some (vI x1), some (vI x2), none, none, none, none, some (vI x7), none, none] [vR 0, vR 41] (sh, I, L) (0, 0) ?_
  refine hK.1 127 [some (vR 0), some (vI x1), some (vI x2), none, none, none, none, some (vI x7), none, none] [vI x1, vR 0, vR 41] (sh, I, L) (0, 0) ?_
  refine hK.1 128 [some (vR 0), some (vI x1), some (vI x2), none, none, none, none, some (vI x7), none, none] [vI x2, vI x1, vR 0, vR 41] (sh, I, L) (0, 0) ?_
  refine hK.2 [false, false, false, false, false, false, false, false, false, false] _ _ _ _ _ ?_
  refine hK.1 130 [none, none, none, none, none, none, none, none, none, none] [vI x7, vI x2, vI x1, vR 0, vR 41] (sh, I, L) (0, 0) ?_
  exact And.intro ⟨(sk_0 hs), Nat.le_of_ble_eq_true rfl, Nat.le_of_ble_eq_true rfl, Nat.le_of_ble_eq_true rfl, Nat.le_of_ble_eq_true rfl⟩ k
set_option maxRecDepth 4000 in
theorem B_X11_run_133 {Q : oQ} {K : oK} (hK : oCl tb_X11_run Q K) {sh : oS} (hs : Sh sh) {I : Nat → Nat → Int} {L : Nat → Nat → Int64} {s1 : Int} (b133 : 0 ≤ s1 ∧ s1 < 128) (k : K 134 [none, none, none, none, none, none, none, none, none, none] [vI (I 41 (s1.toNat))] (sh, I, L) (0, 0)) : K 133 [none, none, none, none, none, none, none, none, none, none] [vI s1, vR 41] (sh, I, L) (0, 0) := by
  refine hK.1 133 [none, none, none, none, none, none, none, none, none, none] [vI s1, vR 41] (sh, I, L) (0, 0) ?_
  refine And.intro (And.intro (sk_41 hs) (ixL (sl_41 hs) b133)) ?_
  exact k
set_option maxRecDepth 4000 in
theorem B_X11_run_134 {Q : oQ} {K : oK} (hK : oCl tb_X11_run Q K) {sh : oS} {I : Nat → Nat → Int} {L : Nat → Nat → Int64} {s0 : Int} (k : Q (some (vI s0)) (sh, I, L)) : K 134 [none, none, none, none, none, none, none, none, none, none] [vI s0] (sh, I, L) (0, 0) := by
  refine hK.1 134 [none, none, none, none, none, none, none, none, none, none] [vI s0] (sh, I, L) (0, 0) ?_
  exact And.intro ⟨by decide, by decide⟩ k
set_option maxRecDepth 4000 in
theorem B_X11_stand_0 {Q : oQ} {K : oK} (hK : oCl tb_X11_stand Q K) {sh : oS} (hs : Sh sh) {I : Nat → Nat → Int} {L : Nat → Nat → Int64} {x1 : Int} {x2 : Int} {x3 : Int} (k : T_X11_refusal [vR 0, vI x1, vI x2] (sh, I, L) (fun r mm => K 6 [some (vR 0), some (vI x1), some (vI x2), some (vI x3), none, none, none, none] (r.toList ++ []) mm (0, 0))) : K 0 [some (vR 0), some (vI x1), some (vI x2), some (vI x3), none, none, none, none] [] (sh, I, L) (0, 0) := by
  refine hK.1 0 [some (vR 0), some (vI x1), some (vI x2), some (vI x3), none, none, none, none] [] (sh, I, L) (0, 0) ?_
  refine hK.1 1 [some (vR 0), some (vI x1), some (vI x2), some (vI x3), none, none, none, none] [vR 0] (sh, I, L) (0, 0) ?_
  refine hK.1 2 [some (vR 0), some (vI x1), some (vI x2), some (vI x3), none, none, none, none] [vI x1, vR 0] (sh, I, L) (0, 0) ?_
  refine hK.1 3 [some (vR 0), some (vI x1), some (vI x2), some (vI x3), none, none, none, none] [vI x2, vI x1, vR 0] (sh, I, L) (0, 0) ?_
  exact And.intro ⟨(sk_0 hs), Nat.le_of_ble_eq_true rfl, Nat.le_of_ble_eq_true rfl, Nat.le_of_ble_eq_true rfl, Nat.le_of_ble_eq_true rfl⟩ k
set_option maxRecDepth 4000 in
theorem B_X11_stand_6 {Q : oQ} {K : oK} (hK : oCl tb_X11_stand Q K) {sh : oS} {I : Nat → Nat → Int} {L : Nat → Nat → Int64} {x1 : Int} {x2 : Int} {x3 : Int} {s0 : Int} (n10 : inR s0) (kt : s0 = 0 → K 16 [some (vR 0), some (vI x1), some (vI x2), some (vI x3), none, none, none, none] [] (sh, I, L) (0, 0)) (kf : ¬ (s0 = 0) → K 13 [none, none, none, none, some (vI s0), none, none, none] [] (sh, I, L) (0, 0)) : K 6 [some (vR 0), some (vI x1), some (vI x2), some (vI x3), none, none, none, none] [vI s0] (sh, I, L) (0, 0) := by
  refine hK.1 6 [some (vR 0), some (vI x1), some (vI x2), some (vI x3), none, none, none, none] [vI s0] (sh, I, L) (0, 0) ?_
  refine hK.1 8 [some (vR 0), some (vI x1), some (vI x2), some (vI x3), some (vI s0), none, none, none] [] (sh, I, L) (0, 0) ?_
  refine hK.1 10 [some (vR 0), some (vI x1), some (vI x2), some (vI x3), some (vI s0), none, none, none] [vI s0] (sh, I, L) (0, 0) ?_
  exact And.intro (n10) (And.intro (fun h => hK.2 [true, true, true, true, false, false, false, false] _ _ _ _ _ (kt h)) (fun h => hK.2 [false, false, false, false, true, false, false, false] _ _ _ _ _ (kf h)))
set_option maxRecDepth 4000 in
theorem B_X11_stand_13 {Q : oQ} {K : oK} (hK : oCl tb_X11_stand Q K) {sh : oS} {I : Nat → Nat → Int} {L : Nat → Nat → Int64} {x4 : Int} (k : Q (some (vI x4)) (sh, I, L)) : K 13 [none, none, none, none, some (vI x4), none, none, none] [] (sh, I, L) (0, 0) := by
  refine hK.1 13 [none, none, none, none, some (vI x4), none, none, none] [] (sh, I, L) (0, 0) ?_
  refine hK.1 15 [none, none, none, none, some (vI x4), none, none, none] [vI x4] (sh, I, L) (0, 0) ?_
  exact And.intro ⟨by decide, by decide⟩ k
set_option maxRecDepth 4000 in
theorem B_X11_stand_16 {Q : oQ} {K : oK} (hK : oCl tb_X11_stand Q K) {sh : oS} {I : Nat → Nat → Int} {L : Nat → Nat → Int64} {x1 : Int} {x2 : Int} {x3 : Int} (n19a : inR x3) (kt : x3 = 0 → K 53 [some (vR 0), some (vI x1), some (vI x2), some (vI x3), none, some (vI (x3.tmod 10)), none, none] [] (sh, I, L) (0, 0)) (kf : ¬ (x3 = 0) → K 26 [some (vR 0), some (vI x1), some (vI x2), some (vI x3), none, some (vI (x3.tmod 10)), none, none] [] (sh, I, L) (0, 0)) : K 16 [some (vR 0), some (vI x1), some (vI x2), some (vI x3), none, none, none, none] [] (sh, I, L) (0, 0) := by
  refine hK.1 16 [some (vR 0), some (vI x1), some (vI x2), some (vI x3), none, none, none, none] [] (sh, I, L) (0, 0) ?_
  refine hK.1 17 [some (vR 0), some (vI x1), some (vI x2), some (vI x3), none, none, none, none] [vI x3] (sh, I, L) (0, 0) ?_
  refine hK.1 19 [some (vR 0), some (vI x1), some (vI x2), some (vI x3), none, none, none, none] [vI 10, vI x3] (sh, I, L) (0, 0) ?_
  refine And.intro (And.intro n19a (And.intro ⟨by decide, by decide⟩ (by decide))) ?_
  refine hK.1 20 [some (vR 0), some (vI x1), some (vI x2), some (vI x3), none, none, none, none] [vI (x3.tmod 10)] (sh, I, L) (0, 0) ?_
  refine hK.1 22 [some (vR 0), some (vI x1), some (vI x2), some (vI x3), none, some (vI (x3.tmod 10)), none, none] [] (sh, I, L) (0, 0) ?_
  refine hK.1 23 [some (vR 0), some (vI x1), some (vI x2), some (vI x3), none, some (vI (x3.tmod 10)), none, none] [vI x3] (sh, I, L) (0, 0) ?_
  exact And.intro (n19a) (And.intro (fun h => hK.2 [true, true, true, true, false, true, false, false] _ _ _ _ _ (kt h)) (fun h => hK.2 [true, true, true, true, false, true, false, false] _ _ _ _ _ (kf h)))
set_option maxRecDepth 4000 in
theorem B_X11_stand_26 {Q : oQ} {K : oK} (hK : oCl tb_X11_stand Q K) {sh : oS} {I : Nat → Nat → Int} {L : Nat → Nat → Int64} {x1 : Int} {x2 : Int} {x3 : Int} {x5 : Int} (n29a : inR x3) (kt : x3 < 11 → K 50 [none, none, none, none, none, none, none, none] [] (sh, I, L) (0, 0)) (kf : ¬ (x3 < 11) → K 32 [some (vR 0), some (vI x1), some (vI x2), some (vI x3), none, some (vI x5), none, none] [] (sh, I, L) (0, 0)) : K 26 [some (vR 0), some (vI x1), some (vI x2), some (vI x3), none, some (vI x5), none, none] [] (sh, I, L) (0, 0) := by
  refine hK.1 26 [some (vR 0), some (vI x1), some (vI x2), some (vI x3), none, some (vI x5), none, none] [] (sh, I, L) (0, 0) ?_
  refine hK.1 27 [some (vR 0), some (vI x1), some (vI x2), some (vI x3), none, some (vI x5), none, none] [vI x3] (sh, I, L) (0, 0) ?_
  refine hK.1 29 [some (vR 0), some (vI x1), some (vI x2), some (vI x3), none, some (vI x5), none, none] [vI 11, vI x3] (sh, I, L) (0, 0) ?_
  exact And.intro (And.intro n29a ⟨by decide, by decide⟩) (And.intro (fun h => hK.2 [false, false, false, false, false, false, false, false] _ _ _ _ _ (kt h)) (fun h => hK.2 [true, true, true, true, false, true, false, false] _ _ _ _ _ (kf h)))
set_option maxRecDepth 4000 in
theorem B_X11_stand_32 {Q : oQ} {K : oK} (hK : oCl tb_X11_stand Q K) {sh : oS} {I : Nat → Nat → Int} {L : Nat → Nat → Int64} {x1 : Int} {x2 : Int} {x3 : Int} {x5 : Int} (n35a : inR x3) (kt : 123 < x3 → K 50 [none, none, none, none, none, none, none, none] [] (sh, I, L) (0, 0)) (kf : ¬ (123 < x3) → K 38 [some (vR 0), some (vI x1), some (vI x2), some (vI x3), none, some (vI x5), none, none] [] (sh, I, L) (0, 0)) : K 32 [some (vR 0), some (vI x1), some (vI x2), some (vI x3), none, some (vI x5), none, none] [] (sh, I, L) (0, 0) := by
  refine hK.1 32 [some (vR 0), some (vI x1), some (vI x2), some (vI x3), none, some (vI x5), none, none] [] (sh, I, L) (0, 0) ?_
  refine hK.1 33 [some (vR 0), some (vI x1), some (vI x2), some (vI x3), none, some (vI x5), none, none] [vI x3] (sh, I, L) (0, 0) ?_
  refine hK.1 35 [some (vR 0), some (vI x1), some (vI x2), some (vI x3), none, some (vI x5), none, none] [vI 123, vI x3] (sh, I, L) (0, 0) ?_
  exact And.intro (And.intro n35a ⟨by decide, by decide⟩) (And.intro (fun h => hK.2 [false, false, false, false, false, false, false, false] _ _ _ _ _ (kt h)) (fun h => hK.2 [true, true, true, true, false, true, false, false] _ _ _ _ _ (kf h)))
set_option maxRecDepth 4000 in
theorem B_X11_stand_38 {Q : oQ} {K : oK} (hK : oCl tb_X11_stand Q K) {sh : oS} {I : Nat → Nat → Int} {L : Nat → Nat → Int64} {x1 : Int} {x2 : Int} {x3 : Int} {x5 : Int} (n41a : inR x5) (kt : x5 < 1 → K 50 [none, none, none, none, none, none, none, none] [] (sh, I, L) (0, 0)) (kf : ¬ (x5 < 1) → K 44 [some (vR 0), some (vI x1), some (vI x2), some (vI x3), none, some (vI x5), none, none] [] (sh, I, L) (0, 0)) : K 38 [some (vR 0), some (vI x1), some (vI x2), some (vI x3), none, some (vI x5), none, none] [] (sh, I, L) (0, 0) := by
  refine hK.1 38 [some (vR 0), some (vI x1), some (vI x2), some (vI x3), none, some (vI x5), none, none] [] (sh, I, L) (0, 0) ?_
  refine hK.1 40 [some (vR 0), some (vI x1), some (vI x2), some (vI x3), none, some (vI x5), none, none] [vI x5] (sh, I, L) (0, 0) ?_
  refine hK.1 41 [some (vR 0), some (vI x1), some (vI x2), some (vI x3), none, some (vI x5), none, none] [vI 1, vI x5] (sh, I, L) (0, 0) ?_
  exact And.intro (And.intro n41a ⟨by decide, by decide⟩) (And.intro (fun h => hK.2 [false, false, false, false, false, false, false, false] _ _ _ _ _ (kt h)) (fun h => hK.2 [true, true, true, true, false, true, false, false] _ _ _ _ _ (kf h)))
set_option maxRecDepth 4000 in
theorem B_X11_stand_44 {Q : oQ} {K : oK} (hK : oCl tb_X11_stand Q K) {sh : oS} {I : Nat → Nat → Int} {L : Nat → Nat → Int64} {x1 : Int} {x2 : Int} {x3 : Int} {x5 : Int} (n47a : inR x5) (kt : x5 ≤ 3 → K 53 [some (vR 0), some (vI x1), some (vI x2), some (vI x3), none, some (vI x5), none, none] [] (sh, I, L) (0, 0)) (kf : ¬ (x5 ≤ 3) → K 50 [none, none, none, none, none, none, none, none] [] (sh, I, L) (0, 0)) : K 44 [some (vR 0), some (vI x1), some (vI x2), some (vI x3), none, some (vI x5), none, none] [] (sh, I, L) (0, 0) := by
  refine hK.1 44 [some (vR 0), some (vI x1), some (vI x2), some (vI x3), none, some (vI x5), none, none] [] (sh, I, L) (0, 0) ?_
  refine hK.1 46 [some (vR 0), some (vI x1), some (vI x2), some (vI x3), none, some (vI x5), none, none] [vI x5] (sh, I, L) (0, 0) ?_
  refine hK.1 47 [some (vR 0), some (vI x1), some (vI x2), some (vI x3), none, some (vI x5), none, none] [vI 3, vI x5] (sh, I, L) (0, 0) ?_
  exact And.intro (And.intro n47a ⟨by decide, by decide⟩) (And.intro (fun h => hK.2 [true, true, true, true, false, true, false, false] _ _ _ _ _ (kt h)) (fun h => hK.2 [false, false, false, false, false, false, false, false] _ _ _ _ _ (kf h)))
set_option maxRecDepth 4000 in
theorem B_X11_stand_50 {Q : oQ} {K : oK} (hK : oCl tb_X11_stand Q K) {sh : oS} {I : Nat → Nat → Int} {L : Nat → Nat → Int64}  (k : Q (some (vI (-102))) (sh, I, L)) : K 50 [none, none, none, none, none, none, none, none] [] (sh, I, L) (0, 0) := by
  refine hK.1 50 [none, none, none, none, none, none, none, none] [] (sh, I, L) (0, 0) ?_
  refine hK.1 52 [none, none, none, none, none, none, none, none] [vI (-102)] (sh, I, L) (0, 0) ?_
  exact And.intro ⟨by decide, by decide⟩ k
set_option maxRecDepth 4000 in
theorem B_X11_stand_53 {Q : oQ} {K : oK} (hK : oCl tb_X11_stand Q K) {sh : oS} (hs : Sh sh) {I : Nat → Nat → Int} {L : Nat → Nat → Int64} {x1 : Int} {x2 : Int} {x3 : Int} {x5 : Int} (k : T_X11_pitch [vR 0, vI x1, vI x2] (sh, I, L) (fun r mm => K 59 [some (vR 0), none, none, some (vI x3), none, some (vI x5), none, none] (r.toList ++ []) mm (0, 0))) : K 53 [some (vR 0), some (vI x1), some (vI x2), some (vI x3), none, some (vI x5), none, none] [] (sh, I, L) (0, 0) := by
  refine hK.1 53 [some (vR 0), some (vI x1), some (vI x2), some (vI x3), none, some (vI x5), none, none] [] (sh, I, L) (0, 0) ?_
  refine hK.1 54 [some (vR 0), some (vI x1), some (vI x2), some (vI x3), none, some (vI x5), none, none] [vR 0] (sh, I, L) (0, 0) ?_
  refine hK.1 55 [some (vR 0), some (vI x1), some (vI x2), some (vI x3), none, some (vI x5), none, none] [vI x1, vR 0] (sh, I, L) (0, 0) ?_
  refine hK.2 [true, false, false, true, false, true, false, false] _ _ _ _ _ ?_
  refine hK.1 56 [some (vR 0), none, none, some (vI x3), none, some (vI x5), none, none] [vI x2, vI x1, vR 0] (sh, I, L) (0, 0) ?_
  exact And.intro ⟨(sk_0 hs), Nat.le_of_ble_eq_true rfl, Nat.le_of_ble_eq_true rfl, Nat.le_of_ble_eq_true rfl, Nat.le_of_ble_eq_true rfl⟩ k
set_option maxRecDepth 4000 in
theorem B_X11_stand_59 {Q : oQ} {K : oK} (hK : oCl tb_X11_stand Q K) {sh : oS} (hs : Sh sh) {I : Nat → Nat → Int} {L : Nat → Nat → Int64} {x3 : Int} {x5 : Int} (n69 : inR x3) (kt : ¬ x3 = 0 → K 78 [none, none, none, some (vI x3), none, some (vI x5), some (vR 25), none] [] (sh, I, L) (0, 0)) (kf : ¬ (¬ x3 = 0) → K 72 [none, none, none, none, none, none, some (vR 25), none] [] (sh, I, L) (0, 0)) : K 59 [some (vR 0), none, none, some (vI x3), none, some (vI x5), none, none] [] (sh, I, L) (0, 0) := by
  refine hK.1 59 [some (vR 0), none, none, some (vI x3), none, some (vI x5), none, none] [] (sh, I, L) (0, 0) ?_
  refine hK.1 60 [some (vR 0), none, none, some (vI x3), none, some (vI x5), none, none] [vR 0] (sh, I, L) (0, 0) ?_
  refine And.intro (mem1 (sk_0 hs)) (Exists.intro 24 (And.intro (sr_0_14 hs) ?_))
  refine hK.1 63 [some (vR 0), none, none, some (vI x3), none, some (vI x5), none, none] [vR 24] (sh, I, L) (0, 0) ?_
  refine And.intro (mem1 (sk_24 hs)) (Exists.intro 25 (And.intro (sr_24_0 hs) ?_))
  refine hK.1 66 [some (vR 0), none, none, some (vI x3), none, some (vI x5), none, none] [vR 25] (sh, I, L) (0, 0) ?_
  refine hK.1 68 [some (vR 0), none, none, some (vI x3), none, some (vI x5), some (vR 25), none] [] (sh, I, L) (0, 0) ?_
  refine hK.1 69 [some (vR 0), none, none, some (vI x3), none, some (vI x5), some (vR 25), none] [vI x3] (sh, I, L) (0, 0) ?_
  exact And.intro (n69) (And.intro (fun h => hK.2 [false, false, false, true, false, true, true, false] _ _ _ _ _ (kt h)) (fun h => hK.2 [false, false, false, false, false, false, true, false] _ _ _ _ _ (kf h)))
set_option maxRecDepth 4000 in
theorem B_X11_stand_72 {Q : oQ} {K : oK} (hK : oCl tb_X11_stand Q K) {sh : oS} (hs : Sh sh) {I : Nat → Nat → Int} {L : Nat → Nat → Int64}  (k : Q (some (vI (I 25 3))) (sh, I, L)) : K 72 [none, none, none, none, none, none, some (vR 25), none] [] (sh, I, L) (0, 0) := by
  refine hK.1 72 [none, none, none, none, none, none, some (vR 25), none] [] (sh, I, L) (0, 0) ?_
  refine hK.1 74 [none, none, none, none, none, none, some (vR 25), none] [vR 25] (sh, I, L) (0, 0) ?_
  refine And.intro (mem1 (sk_25 hs)) ?_
  refine hK.1 77 [none, none, none, none, none, none, some (vR 25), none] [vI (I 25 3)] (sh, I, L) (0, 0) ?_
  exact And.intro ⟨by decide, by decide⟩ k
set_option maxRecDepth 4000 in
theorem B_X11_stand_78 {Q : oQ} {K : oK} (hK : oCl tb_X11_stand Q K) {sh : oS} (hs : Sh sh) {I : Nat → Nat → Int} {L : Nat → Nat → Int64} {x3 : Int} {x5 : Int} (n81a : inR x3) (n93a : inR ((x3.tdiv 10) - 1)) (n93b : inR (I 25 3)) (kt : (x3.tdiv 10) - 1 < I 25 3 → K 98 [none, none, none, none, none, some (vI x5), some (vR 25), some (vI ((x3.tdiv 10) - 1))] [] (sh, I, L) (0, 0)) (kf : ¬ ((x3.tdiv 10) - 1 < I 25 3) → K 96 [none, none, none, none, none, none, none, none] [] (sh, I, L) (0, 0)) : K 78 [none, none, none, some (vI x3), none, some (vI x5), some (vR 25), none] [] (sh, I, L) (0, 0) := by
  refine hK.1 78 [none, none, none, some (vI x3), none, some (vI x5), some (vR 25), none] [] (sh, I, L) (0, 0) ?_
  refine hK.1 79 [none, none, none, some (vI x3), none, some (vI x5), some (vR 25), none] [vI x3] (sh, I, L) (0, 0) ?_
  refine hK.1 81 [none, none, none, some (vI x3), none, some (vI x5), some (vR 25), none] [vI 10, vI x3] (sh, I, L) (0, 0) ?_
  refine And.intro (And.intro n81a (And.intro ⟨by decide, by decide⟩ (by decide))) ?_
  refine hK.1 82 [none, none, none, some (vI x3), none, some (vI x5), some (vR 25), none] [vI (x3.tdiv 10)] (sh, I, L) (0, 0) ?_
  refine hK.1 83 [none, none, none, some (vI x3), none, some (vI x5), some (vR 25), none] [vI 1, vI (x3.tdiv 10)] (sh, I, L) (0, 0) ?_
  refine hK.1 84 [none, none, none, some (vI x3), none, some (vI x5), some (vR 25), none] [vI ((x3.tdiv 10) - 1)] (sh, I, L) (0, 0) ?_
  refine hK.1 86 [none, none, none, some (vI x3), none, some (vI x5), some (vR 25), some (vI ((x3.tdiv 10) - 1))] [] (sh, I, L) (0, 0) ?_
  refine hK.1 88 [none, none, none, some (vI x3), none, some (vI x5), some (vR 25), some (vI ((x3.tdiv 10) - 1))] [vI ((x3.tdiv 10) - 1)] (sh, I, L) (0, 0) ?_
  refine hK.1 90 [none, none, none, some (vI x3), none, some (vI x5), some (vR 25), some (vI ((x3.tdiv 10) - 1))] [vR 25, vI ((x3.tdiv 10) - 1)] (sh, I, L) (0, 0) ?_
  refine And.intro (mem1 (sk_25 hs)) ?_
  refine hK.1 93 [none, none, none, some (vI x3), none, some (vI x5), some (vR 25), some (vI ((x3.tdiv 10) - 1))] [vI (I 25 3), vI ((x3.tdiv 10) - 1)] (sh, I, L) (0, 0) ?_
  exact And.intro (And.intro n93a n93b) (And.intro (fun h => hK.2 [false, false, false, false, false, true, true, true] _ _ _ _ _ (kt h)) (fun h => hK.2 [false, false, false, false, false, false, false, false] _ _ _ _ _ (kf h)))
set_option maxRecDepth 4000 in
theorem B_X11_stand_96 {Q : oQ} {K : oK} (hK : oCl tb_X11_stand Q K) {sh : oS} {I : Nat → Nat → Int} {L : Nat → Nat → Int64}  (k : Q (some (vI (-1))) (sh, I, L)) : K 96 [none, none, none, none, none, none, none, none] [] (sh, I, L) (0, 0) := by
  refine hK.1 96 [none, none, none, none, none, none, none, none] [] (sh, I, L) (0, 0) ?_
  refine hK.1 97 [none, none, none, none, none, none, none, none] [vI (-1)] (sh, I, L) (0, 0) ?_
  exact And.intro ⟨by decide, by decide⟩ k
set_option maxRecDepth 4000 in
theorem B_X11_stand_98 {Q : oQ} {K : oK} (hK : oCl tb_X11_stand Q K) {sh : oS} {I : Nat → Nat → Int} {L : Nat → Nat → Int64} {x5 : Int} {x7 : Int} (n101a : inR x5) (kt : ¬ x5 = 1 → K 115 [none, none, none, none, none, some (vI x5), some (vR 25), some (vI x7)] [] (sh, I, L) (0, 0)) (kf : ¬ (¬ x5 = 1) → K 104 [none, none, none, none, none, none, some (vR 25), some (vI x7)] [] (sh, I, L) (0, 0)) : K 98 [none, none, none, none, none, some (vI x5), some (vR 25), some (vI x7)] [] (sh, I, L) (0, 0) := by
  refine hK.1 98 [none, none, none, none, none, some (vI x5), some (vR 25), some (vI x7)] [] (sh, I, L) (0, 0) ?_
  refine hK.1 100 [none, none, none, none, none, some (vI x5), some (vR 25), some (vI x7)] [vI x5] (sh, I, L) (0, 0) ?_
  refine hK.1 101 [none, none, none, none, none, some (vI x5), some (vR 25), some (vI x7)] [vI 1, vI x5] (sh, I, L) (0, 0) ?_
  exact And.intro (And.intro n101a ⟨by decide, by decide⟩) (And.intro (fun h => hK.2 [false, false, false, false, false, true, true, true] _ _ _ _ _ (kt h)) (fun h => hK.2 [false, false, false, false, false, false, true, true] _ _ _ _ _ (kf h)))
set_option maxRecDepth 4000 in
theorem B_X11_stand_104 {Q : oQ} {K : oK} (hK : oCl tb_X11_stand Q K) {sh : oS} (hs : Sh sh) {I : Nat → Nat → Int} {L : Nat → Nat → Int64} {x7 : Int} (b111 : 0 ≤ x7 ∧ x7 < 30) (k : K 140 [none, none, none, none, none, none, none, none] [vI (I 26 (x7.toNat))] (sh, I, L) (0, 0)) : K 104 [none, none, none, none, none, none, some (vR 25), some (vI x7)] [] (sh, I, L) (0, 0) := by
  refine hK.1 104 [none, none, none, none, none, none, some (vR 25), some (vI x7)] [] (sh, I, L) (0, 0) ?_
  refine hK.1 106 [none, none, none, none, none, none, some (vR 25), some (vI x7)] [vR 25] (sh, I, L) (0, 0) ?_
  refine And.intro (mem1 (sk_25 hs)) (Exists.intro 26 (And.intro (sr_25_0 hs) ?_))
  refine hK.1 109 [none, none, none, none, none, none, some (vR 25), some (vI x7)] [vR 26] (sh, I, L) (0, 0) ?_
  refine hK.1 111 [none, none, none, none, none, none, some (vR 25), some (vI x7)] [vI x7, vR 26] (sh, I, L) (0, 0) ?_
  refine And.intro (And.intro (sk_26 hs) (ixL (sl_26 hs) b111)) ?_
  refine hK.1 112 [none, none, none, none, none, none, some (vR 25), some (vI x7)] [vI (I 26 (x7.toNat))] (sh, I, L) (0, 0) ?_
  refine hK.2 [false, false, false, false, false, false, false, false] _ _ _ _ _ ?_
  exact k
set_option maxRecDepth 4000 in
theorem B_X11_stand_115 {Q : oQ} {K : oK} (hK : oCl tb_X11_stand Q K) {sh : oS} {I : Nat → Nat → Int} {L : Nat → Nat → Int64} {x5 : Int} {x7 : Int} (n118a : inR x5) (kt : ¬ x5 = 2 → K 132 [none, none, none, none, none, none, some (vR 25), some (vI x7)] [] (sh, I, L) (0, 0)) (kf : ¬ (¬ x5 = 2) → K 121 [none, none, none, none, none, none, some (vR 25), some (vI x7)] [] (sh, I, L) (0, 0)) : K 115 [none, none, none, none, none, some (vI x5), some (vR 25), some (vI x7)] [] (sh, I, L) (0, 0) := by
  refine hK.1 115 [none, none, none, none, none, some (vI x5), some (vR 25), some (vI x7)] [] (sh, I, L) (0, 0) ?_
  refine hK.1 117 [none, none, none, none, none, some (vI x5), some (vR 25), some (vI x7)] [vI x5] (sh, I, L) (0, 0) ?_
  refine hK.1 118 [none, none, none, none, none, some (vI x5), some (vR 25), some (vI x7)] [vI 2, vI x5] (sh, I, L) (0, 0) ?_
  exact And.intro (And.intro n118a ⟨by decide, by decide⟩) (And.intro (fun h => hK.2 [false, false, false, false, false, false, true, true] _ _ _ _ _ (kt h)) (fun h => hK.2 [false, false, false, false, false, false, true, true] _ _ _ _ _ (kf h)))
set_option maxRecDepth 4000 in
theorem B_X11_stand_121 {Q : oQ} {K : oK} (hK : oCl tb_X11_stand Q K) {sh : oS} (hs : Sh sh) {I : Nat → Nat → Int} {L : Nat → Nat → Int64} {x7 : Int} (b128 : 0 ≤ x7 ∧ x7 < 30) (k : K 140 [none, none, none, none, none, none, none, none] [vI (I 27 (x7.toNat))] (sh, I, L) (0, 0)) : K 121 [none, none, none, none, none, none, some (vR 25), some (vI x7)] [] (sh, I, L) (0, 0) := by
  refine hK.1 121 [none, none, none, none, none, none, some (vR 25), some (vI x7)] [] (sh, I, L) (0, 0) ?_
  refine hK.1 123 [none, none, none, none, none, none, some (vR 25), some (vI x7)] [vR 25] (sh, I, L) (0, 0) ?_
  refine And.intro (mem1 (sk_25 hs)) (Exists.intro 27 (And.intro (sr_25_1 hs) ?_))
  refine hK.1 126 [none, none, none, none, none, none, some (vR 25), some (vI x7)] [vR 27] (sh, I, L) (0, 0) ?_
  refine hK.1 128 [none, none, none, none, none, none, some (vR 25), some (vI x7)] [vI x7, vR 27] (sh, I, L) (0, 0) ?_
  refine And.intro (And.intro (sk_27 hs) (ixL (sl_27 hs) b128)) ?_
  refine hK.1 129 [none, none, none, none, none, none, some (vR 25), some (vI x7)] [vI (I 27 (x7.toNat))] (sh, I, L) (0, 0) ?_
  refine hK.2 [false, false, false, false, false, false, false, false] _ _ _ _ _ ?_
  exact k
set_option maxRecDepth 4000 in
theorem B_X11_stand_132 {Q : oQ} {K : oK} (hK : oCl tb_X11_stand Q K) {sh : oS} (hs : Sh sh) {I : Nat → Nat → Int} {L : Nat → Nat → Int64} {x7 : Int} (b139 : 0 ≤ x7 ∧ x7 < 30) (k : K 140 [none, none, none, none, none, none, none, none] [vI (I 28 (x7.toNat))] (sh, I, L) (0, 0)) : K 132 [none, none, none, none, none, none, some (vR 25), some (vI x7)] [] (sh, I, L) (0, 0) := by
  refine hK.1 132 [none, none, none, none, none, none, some (vR 25), some (vI x7)] [] (sh, I, L) (0, 0) ?_
  refine hK.1 134 [none, none, none, none, none, none, some (vR 25), some (vI x7)] [vR 25] (sh, I, L) (0, 0) ?_
  refine And.intro (mem1 (sk_25 hs)) (Exists.intro 28 (And.intro (sr_25_2 hs) ?_))
  refine hK.1 137 [none, none, none, none, none, none, some (vR 25), some (vI x7)] [vR 28] (sh, I, L) (0, 0) ?_
  refine hK.1 139 [none, none, none, none, none, none, some (vR 25), some (vI x7)] [vI x7, vR 28] (sh, I, L) (0, 0) ?_
  refine And.intro (And.intro (sk_28 hs) (ixL (sl_28 hs) b139)) ?_
  refine hK.2 [false, false, false, false, false, false, false, false] _ _ _ _ _ ?_
  exact k
set_option maxRecDepth 4000 in
theorem B_X11_stand_140 {Q : oQ} {K : oK} (hK : oCl tb_X11_stand Q K) {sh : oS} {I : Nat → Nat → Int} {L : Nat → Nat → Int64} {s0 : Int} (k : Q (some (vI s0)) (sh, I, L)) : K 140 [none, none, none, none, none, none, none, none] [vI s0] (sh, I, L) (0, 0) := by
  refine hK.1 140 [none, none, none, none, none, none, none, none] [vI s0] (sh, I, L) (0, 0) ?_
  exact And.intro ⟨by decide, by decide⟩ k
set_option maxRecDepth 4000 in
theorem B_X11_tell_0 {Q : oQ} {K : oK} (hK : oCl tb_X11_tell Q K) {sh : oS} (hs : Sh sh) {I : Nat → Nat → Int} {L : Nat → Nat → Int64} {q0_7 : Nat} {q0_7p q0_7f q0_7t : Nat} (r0_7 : sR sh 0 7 = some q0_7) (k : T_X10_read [vR q0_7, vR 1] (sh, I, L) (fun r mm => K 11 [some (vR 0), none] (r.toList ++ []) mm (0, 0))) (Aq0_7 : ToldAt sh q0_7 q0_7p q0_7f q0_7t) : K 0 [some (vR 0), none] [] (sh, I, L) (0, 0) := by
  refine hK.1 0 [some (vR 0), none] [] (sh, I, L) (0, 0) ?_
  refine hK.1 1 [some (vR 0), none] [vR 0] (sh, I, L) (0, 0) ?_
  refine And.intro (mem1 (sk_0 hs)) (Exists.intro q0_7 (And.intro r0_7 ?_))
  refine hK.1 4 [some (vR 0), none] [vR q0_7] (sh, I, L) (0, 0) ?_
  refine hK.1 5 [some (vR 0), none] [vR 0, vR q0_7] (sh, I, L) (0, 0) ?_
  refine And.intro (mem1 (sk_0 hs)) (Exists.intro 1 (And.intro (sr_0_0 hs) ?_))
  refine hK.1 8 [some (vR 0), none] [vR 1, vR q0_7] (sh, I, L) (0, 0) ?_
  exact And.intro ⟨Aq0_7.1, Nat.le_of_ble_eq_true rfl, Nat.le_of_ble_eq_true rfl, Nat.le_of_ble_eq_true rfl, Nat.le_of_ble_eq_true rfl⟩ k
set_option maxRecDepth 4000 in
theorem B_X11_tell_11 {Q : oQ} {K : oK} (hK : oCl tb_X11_tell Q K) {sh : oS} {I : Nat → Nat → Int} {L : Nat → Nat → Int64} {s0 : Int} (n11 : inR s0) (kt : ¬ s0 = 0 → K 17 [some (vR 0), none] [] (sh, I, L) (0, 0)) (kf : ¬ (¬ s0 = 0) → K 14 [none, none] [] (sh, I, L) (0, 0)) : K 11 [some (vR 0), none] [vI s0] (sh, I, L) (0, 0) := by
  refine hK.1 11 [some (vR 0), none] [vI s0] (sh, I, L) (0, 0) ?_
  exact And.intro (n11) (And.intro (fun h => hK.2 [true, false] _ _ _ _ _ (kt h)) (fun h => hK.2 [false, false] _ _ _ _ _ (kf h)))
set_option maxRecDepth 4000 in
theorem B_X11_tell_14 {Q : oQ} {K : oK} (hK : oCl tb_X11_tell Q K) {sh : oS} {I : Nat → Nat → Int} {L : Nat → Nat → Int64}  (k : Q (some (vI (-103))) (sh, I, L)) : K 14 [none, none] [] (sh, I, L) (0, 0) := by
  refine hK.1 14 [none, none] [] (sh, I, L) (0, 0) ?_
  refine hK.1 16 [none, none] [vI (-103)] (sh, I, L) (0, 0) ?_
  exact And.intro ⟨by decide, by decide⟩ k
set_option maxRecDepth 4000 in
theorem B_X11_tell_17 {Q : oQ} {K : oK} (hK : oCl tb_X11_tell Q K) {sh : oS} (hs : Sh sh) {I : Nat → Nat → Int} {L : Nat → Nat → Int64} {q0_7 : Nat} (r0_7 : sR sh 0 7 = some q0_7) (k : T_X11_added [vR 0, vR q0_7] (sh, I, L) (fun r mm => K 25 [some (vR 0), none] (r.toList ++ []) mm (0, 0))) : K 17 [some (vR 0), none] [] (sh, I, L) (0, 0) := by
  refine hK.1 17 [some (vR 0), none] [] (sh, I, L) (0, 0) ?_
  refine hK.1 18 [some (vR 0), none] [vR 0] (sh, I, L) (0, 0) ?_
  refine hK.1 19 [some (vR 0), none] [vR 0, vR 0] (sh, I, L) (0, 0) ?_
  refine And.intro (mem1 (sk_0 hs)) (Exists.intro q0_7 (And.intro r0_7 ?_))
  refine hK.1 22 [some (vR 0), none] [vR q0_7, vR 0] (sh, I, L) (0, 0) ?_
  exact And.intro ⟨(sk_0 hs), Nat.le_of_ble_eq_true rfl, Nat.le_of_ble_eq_true rfl, Nat.le_of_ble_eq_true rfl, Nat.le_of_ble_eq_true rfl⟩ k
set_option maxRecDepth 4000 in
theorem B_X11_tell_25 {Q : oQ} {K : oK} (hK : oCl tb_X11_tell Q K) {sh : oS} {I : Nat → Nat → Int} {L : Nat → Nat → Int64} {s0 : Int} (n27 : inR s0) (kt : s0 < 0 → K 49 [none, some (vI s0)] [] (sh, I, L) (0, 0)) (kf : ¬ (s0 < 0) → K 30 [some (vR 0), some (vI s0)] [] (sh, I, L) (0, 0)) : K 25 [some (vR 0), none] [vI s0] (sh, I, L) (0, 0) := by
  refine hK.1 25 [some (vR 0), none] [vI s0] (sh, I, L) (0, 0) ?_
  refine hK.1 26 [some (vR 0), some (vI s0)] [] (sh, I, L) (0, 0) ?_
  refine hK.1 27 [some (vR 0), some (vI s0)] [vI s0] (sh, I, L) (0, 0) ?_
  exact And.intro (n27) (And.intro (fun h => hK.2 [false, true] _ _ _ _ _ (kt h)) (fun h => hK.2 [true, true] _ _ _ _ _ (kf h)))
set_option maxRecDepth 4000 in
theorem B_X11_tell_30 {Q : oQ} {K : oK} (hK : oCl tb_X11_tell Q K) {sh : oS} {I : Nat → Nat → Int} {L : Nat → Nat → Int64} {x1 : Int} (k : T_X10_init [vR (sN sh)] ((sNew sh 10 0), (iNew sh I), (lNew sh L)) (fun r mm => K 38 [some (vR 0), some (vI x1)] (r.toList ++ [vR (sN sh), vR 0]) mm (4, 24))) : K 30 [some (vR 0), some (vI x1)] [] (sh, I, L) (0, 0) := by
  refine hK.1 30 [some (vR 0), some (vI x1)] [] (sh, I, L) (0, 0) ?_
  refine hK.1 31 [some (vR 0), some (vI x1)] [vR 0] (sh, I, L) (0, 0) ?_
  refine And.intro ⟨by decide, by decide⟩ ?_
  refine hK.1 34 [some (vR 0), some (vI x1)] [vR (sN sh), vR 0] ((sNew sh 10 0), (iNew sh I), (lNew sh L)) (1, 6) ?_
  refine hK.1 35 [some (vR 0), some (vI x1)] [vR (sN sh), vR (sN sh), vR 0] ((sNew sh 10 0), (iNew sh I), (lNew sh L)) (1, 6) ?_
  exact And.intro ⟨Nat.le_of_ble_eq_true rfl, Nat.le_of_ble_eq_true rfl, Nat.le_of_ble_eq_true rfl, Nat.le_of_ble_eq_true rfl⟩ k
set_option maxRecDepth 4000 in
theorem B_X11_tell_38 {Q : oQ} {K : oK} (hK : oCl tb_X11_tell Q K) {sh : oS} (hs : Sh sh) {I : Nat → Nat → Int} {L : Nat → Nat → Int64} {x1 : Int} {s1 : Nat} (k : K 41 [some (vR 0), some (vI x1)] [] ((sPutR sh 0 7 (some s1)), I, L) (4, 24)) : K 38 [some (vR 0), some (vI x1)] [vR s1, vR 0] (sh, I, L) (4, 24) := by
  refine hK.1 38 [some (vR 0), some (vI x1)] [vR s1, vR 0] (sh, I, L) (4, 24) ?_
  refine And.intro (mem1 (sk_0 hs)) ?_
  exact k
set_option maxRecDepth 4000 in
theorem B_X11_tell_41 {Q : oQ} {K : oK} (hK : oCl tb_X11_tell Q K) {sh : oS} (hs : Sh sh) {I : Nat → Nat → Int} {L : Nat → Nat → Int64} {x1 : Int} (k : K 49 [none, some (vI x1)] [] (sh, (u2 I 1 1 0), L) (4, 24)) : K 41 [some (vR 0), some (vI x1)] [] (sh, I, L) (4, 24) := by
  refine hK.1 41 [some (vR 0), some (vI x1)] [] (sh, I, L) (4, 24) ?_
  refine hK.1 42 [some (vR 0), some (vI x1)] [vR 0] (sh, I, L) (4, 24) ?_
  refine And.intro (mem1 (sk_0 hs)) (Exists.intro 1 (And.intro (sr_0_0 hs) ?_))
  refine hK.1 45 [some (vR 0), some (vI x1)] [vR 1] (sh, I, L) (4, 24) ?_
  refine hK.1 46 [some (vR 0), some (vI x1)] [vI 0, vR 1] (sh, I, L) (4, 24) ?_
  refine And.intro (mem1 (sk_1 hs)) ?_
  refine hK.2 [false, true] _ _ _ _ _ ?_
  exact k
set_option maxRecDepth 4000 in
theorem B_X11_tell_49 {Q : oQ} {K : oK} (hK : oCl tb_X11_tell Q K) {sh : oS} {I : Nat → Nat → Int} {L : Nat → Nat → Int64} {x1 : Int} {ga gb : Nat} (gle : ga ≤ 4 ∧ gb ≤ 24) (k : Q (some (vI x1)) (sh, I, L)) : K 49 [none, some (vI x1)] [] (sh, I, L) (ga, gb) := by
  refine hK.1 49 [none, some (vI x1)] [] (sh, I, L) (ga, gb) ?_
  refine hK.1 50 [none, some (vI x1)] [vI x1] (sh, I, L) (ga, gb) ?_
  exact And.intro ⟨gle.1, gle.2⟩ k
set_option maxRecDepth 4000 in
theorem B_X11_which_0 {Q : oQ} {K : oK} (hK : oCl tb_X11_which Q K) {sh : oS} (hs : Sh sh) {I : Nat → Nat → Int} {L : Nat → Nat → Int64} {x1 : Int} (k : T_X11_marchOf [vR 0, vI x1] (sh, I, L) (fun r mm => K 5 [some (vR 0), some (vI x1), none, none, none, none, none, none, none] (r.toList ++ []) mm (0, 0))) : K 0 [some (vR 0), some (vI x1), none, none, none, none, none, none, none] [] (sh, I, L) (0, 0) := by
  refine hK.1 0 [some (vR 0), some (vI x1), none, none, none, none, none, none, none] [] (sh, I, L) (0, 0) ?_
  refine hK.1 1 [some (vR 0), some (vI x1), none, none, none, none, none, none, none] [vR 0] (sh, I, L) (0, 0) ?_
  refine hK.1 2 [some (vR 0), some (vI x1), none, none, none, none, none, none, none] [vI x1, vR 0] (sh, I, L) (0, 0) ?_
  exact And.intro ⟨(sk_0 hs), Nat.le_of_ble_eq_true rfl, Nat.le_of_ble_eq_true rfl, Nat.le_of_ble_eq_true rfl, Nat.le_of_ble_eq_true rfl⟩ k
set_option maxRecDepth 4000 in
theorem B_X11_which_5 {Q : oQ} {K : oK} (hK : oCl tb_X11_which Q K) {sh : oS} {I : Nat → Nat → Int} {L : Nat → Nat → Int64} {x1 : Int} {s0 : Nat} (k : K 13 [some (vR 0), some (vI x1), some (vR s0), none, none, none, none, none, none] [] (sh, I, L) (0, 0)) : K 5 [some (vR 0), some (vI x1), none, none, none, none, none, none, none] [vR s0] (sh, I, L) (0, 0) := by
  refine hK.1 5 [some (vR 0), some (vI x1), none, none, none, none, none, none, none] [vR s0] (sh, I, L) (0, 0) ?_
  refine hK.1 6 [some (vR 0), some (vI x1), some (vR s0), none, none, none, none, none, none] [] (sh, I, L) (0, 0) ?_
  refine hK.1 7 [some (vR 0), some (vI x1), some (vR s0), none, none, none, none, none, none] [vR s0] (sh, I, L) (0, 0) ?_
  exact k
set_option maxRecDepth 4000 in
theorem B_X11_which_5n {Q : oQ} {K : oK} (hK : oCl tb_X11_which Q K) {sh : oS} {I : Nat → Nat → Int} {L : Nat → Nat → Int64} {x1 : Int} (k : K 10 [none, none, none, none, none, none, none, none, none] [] (sh, I, L) (0, 0)) : K 5 [some (vR 0), some (vI x1), none, none, none, none, none, none, none] [vN] (sh, I, L) (0, 0) := by
  refine hK.1 5 [some (vR 0), some (vI x1), none, none, none, none, none, none, none] [vN] (sh, I, L) (0, 0) ?_
  refine hK.1 6 [some (vR 0), some (vI x1), some vN, none, none, none, none, none, none] [] (sh, I, L) (0, 0) ?_
  refine hK.1 7 [some (vR 0), some (vI x1), some vN, none, none, none, none, none, none] [vN] (sh, I, L) (0, 0) ?_
  refine hK.2 [false, false, false, false, false, false, false, false, false] _ _ _ _ _ ?_
  exact k
set_option maxRecDepth 4000 in
theorem B_X11_which_10 {Q : oQ} {K : oK} (hK : oCl tb_X11_which Q K) {sh : oS} {I : Nat → Nat → Int} {L : Nat → Nat → Int64}  (k : Q (some (vI (-101))) (sh, I, L)) : K 10 [none, none, none, none, none, none, none, none, none] [] (sh, I, L) (0, 0) := by
  refine hK.1 10 [none, none, none, none, none, none, none, none, none] [] (sh, I, L) (0, 0) ?_
  refine hK.1 12 [none, none, none, none, none, none, none, none, none] [vI (-101)] (sh, I, L) (0, 0) ?_
  exact And.intro ⟨by decide, by decide⟩ k
set_option maxRecDepth 4000 in
theorem B_X11_which_13 {Q : oQ} {K : oK} (hK : oCl tb_X11_which Q K) {sh : oS} (hs : Sh sh) {I : Nat → Nat → Int} {L : Nat → Nat → Int64} {x1 : Int} {h2 : Nat} (n20 : inR (I 3 0)) (kt : I 3 0 = 0 → K 32 [none, none, none, none, none, none, none, none, none] [] (sh, I, L) (0, 0)) (kf : ¬ (I 3 0 = 0) → K 23 [some (vR 0), some (vI x1), some (vR h2), none, none, none, none, none, none] [] (sh, I, L) (0, 0)) : K 13 [some (vR 0), some (vI x1), some (vR h2), none, none, none, none, none, none] [] (sh, I, L) (0, 0) := by
  refine hK.1 13 [some (vR 0), some (vI x1), some (vR h2), none, none, none, none, none, none] [] (sh, I, L) (0, 0) ?_
  refine hK.1 14 [some (vR 0), some (vI x1), some (vR h2), none, none, none, none, none, none] [vR 0] (sh, I, L) (0, 0) ?_
  refine And.intro (mem1 (sk_0 hs)) (Exists.intro 3 (And.intro (sr_0_1 hs) ?_))
  refine hK.1 17 [some (vR 0), some (vI x1), some (vR h2), none, none, none, none, none, none] [vR 3] (sh, I, L) (0, 0) ?_
  refine And.intro (mem1 (sk_3 hs)) ?_
  refine hK.1 20 [some (vR 0), some (vI x1), some (vR h2), none, none, none, none, none, none] [vI (I 3 0)] (sh, I, L) (0, 0) ?_
  exact And.intro (n20) (And.intro (fun h => hK.2 [false, false, false, false, false, false, false, false, false] _ _ _ _ _ (kt h)) (fun h => hK.2 [true, true, true, false, false, false, false, false, false] _ _ _ _ _ (kf h)))
set_option maxRecDepth 4000 in
theorem B_X11_which_13n {Q : oQ} {K : oK} (hK : oCl tb_X11_which Q K) {sh : oS} (hs : Sh sh) {I : Nat → Nat → Int} {L : Nat → Nat → Int64} {x1 : Int} (n20 : inR (I 3 0)) (kt : I 3 0 = 0 → K 32 [none, none, none, none, none, none, none, none, none] [] (sh, I, L) (0, 0)) (kf : ¬ (I 3 0 = 0) → K 23 [some (vR 0), some (vI x1), some vN, none, none, none, none, none, none] [] (sh, I, L) (0, 0)) : K 13 [some (vR 0), some (vI x1), some vN, none, none, none, none, none, none] [] (sh, I, L) (0, 0) := by
  refine hK.1 13 [some (vR 0), some (vI x1), some vN, none, none, none, none, none, none] [] (sh, I, L) (0, 0) ?_
  refine hK.1 14 [some (vR 0), some (vI x1), some vN, none, none, none, none, none, none] [vR 0] (sh, I, L) (0, 0) ?_
  refine And.intro (mem1 (sk_0 hs)) (Exists.intro 3 (And.intro (sr_0_1 hs) ?_))
  refine hK.1 17 [some (vR 0), some (vI x1), some vN, none, none, none, none, none, none] [vR 3] (sh, I, L) (0, 0) ?_
  refine And.intro (mem1 (sk_3 hs)) ?_
  refine hK.1 20 [some (vR 0), some (vI x1), some vN, none, none, none, none, none, none] [vI (I 3 0)] (sh, I, L) (0, 0) ?_
  exact And.intro (n20) (And.intro (fun h => hK.2 [false, false, false, false, false, false, false, false, false] _ _ _ _ _ (kt h)) (fun h => hK.2 [true, true, true, false, false, false, false, false, false] _ _ _ _ _ (kf h)))
set_option maxRecDepth 4000 in
theorem B_X11_which_23 {Q : oQ} {K : oK} (hK : oCl tb_X11_which Q K) {sh : oS} (hs : Sh sh) {I : Nat → Nat → Int} {L : Nat → Nat → Int64} {x1 : Int} {h2 : Nat} (n29a : inR (I 0 11)) (kt : I 0 11 < 30 → K 35 [some (vR 0), some (vI x1), some (vR h2), none, none, none, none, none, none] [] (sh, I, L) (0, 0)) (kf : ¬ (I 0 11 < 30) → K 32 [none, none, none, none, none, none, none, none, none] [] (sh, I, L) (0, 0)) : K 23 [some (vR 0), some (vI x1), some (vR h2), none, none, none, none, none, none] [] (sh, I, L) (0, 0) := by
  refine hK.1 23 [some (vR 0), some (vI x1), some (vR h2), none, none, none, none, none, none] [] (sh, I, L) (0, 0) ?_
  refine hK.1 24 [some (vR 0), some (vI x1), some (vR h2), none, none, none, none, none, none] [vR 0] (sh, I, L) (0, 0) ?_
  refine And.intro (mem1 (sk_0 hs)) ?_
  refine hK.1 27 [some (vR 0), some (vI x1), some (vR h2), none, none, none, none, none, none] [vI (I 0 11)] (sh, I, L) (0, 0) ?_
  refine hK.1 29 [some (vR 0), some (vI x1), some (vR h2), none, none, none, none, none, none] [vI 30, vI (I 0 11)] (sh, I, L) (0, 0) ?_
  exact And.intro (And.intro n29a ⟨by decide, by decide⟩) (And.intro (fun h => hK.2 [true, true, true, false, false, false, false, false, false] _ _ _ _ _ (kt h)) (fun h => hK.2 [false, false, false, false, false, false, false, false, false] _ _ _ _ _ (kf h)))
set_option maxRecDepth 4000 in
theorem B_X11_which_23n {Q : oQ} {K : oK} (hK : oCl tb_X11_which Q K) {sh : oS} (hs : Sh sh) {I : Nat → Nat → Int} {L : Nat → Nat → Int64} {x1 : Int} (n29a : inR (I 0 11)) (kt : I 0 11 < 30 → K 35 [some (vR 0), some (vI x1), some vN, none, none, none, none, none, none] [] (sh, I, L) (0, 0)) (kf : ¬ (I 0 11 < 30) → K 32 [none, none, none, none, none, none, none, none, none] [] (sh, I, L) (0, 0)) : K 23 [some (vR 0), some (vI x1), some vN, none, none, none, none, none, none] [] (sh, I, L) (0, 0) := by
  refine hK.1 23 [some (vR 0), some (vI x1), some vN, none, none, none, none, none, none] [] (sh, I, L) (0, 0) ?_
  refine hK.1 24 [some (vR 0), some (vI x1), some vN, none, none, none, none, none, none] [vR 0] (sh, I, L) (0, 0) ?_
  refine And.intro (mem1 (sk_0 hs)) ?_
  refine hK.1 27 [some (vR 0), some (vI x1), some vN, none, none, none, none, none, none] [vI (I 0 11)] (sh, I, L) (0, 0) ?_
  refine hK.1 29 [some (vR 0), some (vI x1), some vN, none, none, none, none, none, none] [vI 30, vI (I 0 11)] (sh, I, L) (0, 0) ?_
  exact And.intro (And.intro n29a ⟨by decide, by decide⟩) (And.intro (fun h => hK.2 [true, true, true, false, false, false, false, false, false] _ _ _ _ _ (kt h)) (fun h => hK.2 [false, false, false, false, false, false, false, false, false] _ _ _ _ _ (kf h)))
set_option maxRecDepth 4000 in
theorem B_X11_which_32 {Q : oQ} {K : oK} (hK : oCl tb_X11_which Q K) {sh : oS} {I : Nat → Nat → Int} {L : Nat → Nat → Int64}  (k : Q (some (vI (-103))) (sh, I, L)) : K 32 [none, none, none, none, none, none, none, none, none] [] (sh, I, L) (0, 0) := by
  refine hK.1 32 [none, none, none, none, none, none, none, none, none] [] (sh, I, L) (0, 0) ?_
  refine hK.1 34 [none, none, none, none, none, none, none, none, none] [vI (-103)] (sh, I, L) (0, 0) ?_
  exact And.intro ⟨by decide, by decide⟩ k
set_option maxRecDepth 4000 in
theorem B_X11_which_35 {Q : oQ} {K : oK} (hK : oCl tb_X11_which Q K) {sh : oS} (hs : Sh sh) {I : Nat → Nat → Int} {L : Nat → Nat → Int64} {x1 : Int} {h2 : Nat} (k : K 56 [some (vR 0), some (vI x1), some (vR h2), some (vI (-1)), some (vI 0), some (vI 0), some (vI 0), none, none] [] (sh, (u2 I 0 11 ((I 0 11) + 1)), L) (0, 0)) : K 35 [some (vR 0), some (vI x1), some (vR h2), none, none, none, none, none, none] [] (sh, I, L) (0, 0) := by
  refine hK.1 35 [some (vR 0), some (vI x1), some (vR h2), none, none, none, none, none, none] [] (sh, I, L) (0, 0) ?_
  refine hK.1 36 [some (vR 0), some (vI x1), some (vR h2), none, none, none, none, none, none] [vR 0] (sh, I, L) (0, 0) ?_
  refine hK.1 37 [some (vR 0), some (vI x1), some (vR h2), none, none, none, none, none, none] [vR 0, vR 0] (sh, I, L) (0, 0) ?_
  refine And.intro (mem1 (sk_0 hs)) ?_
  refine hK.1 40 [some (vR 0), some (vI x1), some (vR h2), none, none, none, none, none, none] [vI (I 0 11), vR 0] (sh, I, L) (0, 0) ?_
  refine hK.1 41 [some (vR 0), some (vI x1), some (vR h2), none, none, none, none, none, none] [vI 1, vI (I 0 11), vR 0] (sh, I, L) (0, 0) ?_
  refine hK.1 42 [some (vR 0), some (vI x1), some (vR h2), none, none, none, none, none, none] [vI ((I 0 11) + 1), vR 0] (sh, I, L) (0, 0) ?_
  refine And.intro (mem1 (sk_0 hs)) ?_
  refine hK.1 45 [some (vR 0), some (vI x1), some (vR h2), none, none, none, none, none, none] [] (sh, (u2 I 0 11 ((I 0 11) + 1)), L) (0, 0) ?_
  refine hK.1 46 [some (vR 0), some (vI x1), some (vR h2), none, none, none, none, none, none] [vI (-1)] (sh, (u2 I 0 11 ((I 0 11) + 1)), L) (0, 0) ?_
  refine hK.1 47 [some (vR 0), some (vI x1), some (vR h2), some (vI (-1)), none, none, none, none, none] [] (sh, (u2 I 0 11 ((I 0 11) + 1)), L) (0, 0) ?_
  refine hK.1 48 [some (vR 0), some (vI x1), some (vR h2), some (vI (-1)), none, none, none, none, none] [vI 0] (sh, (u2 I 0 11 ((I 0 11) + 1)), L) (0, 0) ?_
  refine hK.1 50 [some (vR 0), some (vI x1), some (vR h2), some (vI (-1)), some (vI 0), none, none, none, none] [] (sh, (u2 I 0 11 ((I 0 11) + 1)), L) (0, 0) ?_
  refine hK.1 51 [some (vR 0), some (vI x1), some (vR h2), some (vI (-1)), some (vI 0), none, none, none, none] [vI 0] (sh, (u2 I 0 11 ((I 0 11) + 1)), L) (0, 0) ?_
  refine hK.1 53 [some (vR 0), some (vI x1), some (vR h2), some (vI (-1)), some (vI 0), some (vI 0), none, none, none] [] (sh, (u2 I 0 11 ((I 0 11) + 1)), L) (0, 0) ?_
  refine hK.1 54 [some (vR 0), some (vI x1), some (vR h2), some (vI (-1)), some (vI 0), some (vI 0), none, none, none] [vI 0] (sh, (u2 I 0 11 ((I 0 11) + 1)), L) (0, 0) ?_
  exact k
set_option maxRecDepth 4000 in
theorem B_X11_which_35n {Q : oQ} {K : oK} (hK : oCl tb_X11_which Q K) {sh : oS} (hs : Sh sh) {I : Nat → Nat → Int} {L : Nat → Nat → Int64} {x1 : Int} (k : K 56 [some (vR 0), some (vI x1), some vN, some (vI (-1)), some (vI 0), some (vI 0), some (vI 0), none, none] [] (sh, (u2 I 0 11 ((I 0 11) + 1)), L) (0, 0)) : K 35 [some (vR 0), some (vI x1), some vN, none, none, none, none, none, none] [] (sh, I, L) (0, 0) := by
  refine hK.1 35 [some (vR 0), some (vI x1), some vN, none, none, none, none, none, none] [] (sh, I, L) (0, 0) ?_
  refine hK.1 36 [some (vR 0), some (vI x1), some vN, none, none, none, none, none, none] [vR 0] (sh, I, L) (0, 0) ?_
  refine hK.1 37 [some (vR 0), some (vI x1), some vN, none, none, none, none, none, none] [vR 0, vR 0] (sh, I, L) (0, 0) ?_
  refine And.intro (mem1 (sk_0 hs)) ?_
  refine hK.1 40 [some (vR 0), some (vI x1), some vN, none, none, none, none, none, none] [vI (I 0 11), vR 0] (sh, I, L) (0, 0) ?_
  refine hK.1 41 [some (vR 0), some (vI x1), some vN, none, none, none, none, none, none] [vI 1, vI (I 0 11), vR 0] (sh, I, L) (0, 0) ?_
  refine hK.1 42 [some (vR 0), some (vI x1), some vN, none, none, none, none, none, none] [vI ((I 0 11) + 1), vR 0] (sh, I, L) (0, 0) ?_
  refine And.intro (mem1 (sk_0 hs)) ?_
  refine hK.1 45 [some (vR 0), some (vI x1), some vN, none, none, none, none, none, none] [] (sh, (u2 I 0 11 ((I 0 11) + 1)), L) (0, 0) ?_
  refine hK.1 46 [some (vR 0), some (vI x1), some vN, none, none, none, none, none, none] [vI (-1)] (sh, (u2 I 0 11 ((I 0 11) + 1)), L) (0, 0) ?_
  refine hK.1 47 [some (vR 0), some (vI x1), some vN, some (vI (-1)), none, none, none, none, none] [] (sh, (u2 I 0 11 ((I 0 11) + 1)), L) (0, 0) ?_
  refine hK.1 48 [some (vR 0), some (vI x1), some vN, some (vI (-1)), none, none, none, none, none] [vI 0] (sh, (u2 I 0 11 ((I 0 11) + 1)), L) (0, 0) ?_
  refine hK.1 50 [some (vR 0), some (vI x1), some vN, some (vI (-1)), some (vI 0), none, none, none, none] [] (sh, (u2 I 0 11 ((I 0 11) + 1)), L) (0, 0) ?_
  refine hK.1 51 [some (vR 0), some (vI x1), some vN, some (vI (-1)), some (vI 0), none, none, none, none] [vI 0] (sh, (u2 I 0 11 ((I 0 11) + 1)), L) (0, 0) ?_
  refine hK.1 53 [some (vR 0), some (vI x1), some vN, some (vI (-1)), some (vI 0), some (vI 0), none, none, none] [] (sh, (u2 I 0 11 ((I 0 11) + 1)), L) (0, 0) ?_
  refine hK.1 54 [some (vR 0), some (vI x1), some vN, some (vI (-1)), some (vI 0), some (vI 0), none, none, none] [vI 0] (sh, (u2 I 0 11 ((I 0 11) + 1)), L) (0, 0) ?_
  exact k
set_option maxRecDepth 4000 in
theorem B_X11_which_56 {Q : oQ} {K : oK} (hK : oCl tb_X11_which Q K) {sh : oS} (hs : Sh sh) {I : Nat → Nat → Int} {L : Nat → Nat → Int64} {x1 : Int} {h2 : Nat} {x3 : Int} {x4 : Int} {x5 : Int} {x6 : Int} (n62a : inR x6) (n62b : inR (I 0 9)) (kt : I 0 9 ≤ x6 → K 156 [none, none, none, some (vI x3), none, none, none, none, none] [] (sh, I, L) (0, 0)) (kf : ¬ (I 0 9 ≤ x6) → K 65 [some (vR 0), some (vI x1), some (vR h2), some (vI x3), some (vI x4), some (vI x5), some (vI x6), none, none] [] (sh, I, L) (0, 0)) : K 56 [some (vR 0), some (vI x1), some (vR h2), some (vI x3), some (vI x4), some (vI x5), some (vI x6), none, none] [] (sh, I, L) (0, 0) := by
  refine hK.1 56 [some (vR 0), some (vI x1), some (vR h2), some (vI x3), some (vI x4), some (vI x5), some (vI x6), none, none] [] (sh, I, L) (0, 0) ?_
  refine hK.1 58 [some (vR 0), some (vI x1), some (vR h2), some (vI x3), some (vI x4), some (vI x5), some (vI x6), none, none] [vI x6] (sh, I, L) (0, 0) ?_
  refine hK.1 59 [some (vR 0), some (vI x1), some (vR h2), some (vI x3), some (vI x4), some (vI x5), some (vI x6), none, none] [vR 0, vI x6] (sh, I, L) (0, 0) ?_
  refine And.intro (mem1 (sk_0 hs)) ?_
  refine hK.1 62 [some (vR 0), some (vI x1), some (vR h2), some (vI x3), some (vI x4), some (vI x5), some (vI x6), none, none] [vI (I 0 9), vI x6] (sh, I, L) (0, 0) ?_
  exact And.intro (And.intro n62a n62b) (And.intro (fun h => hK.2 [false, false, false, true, false, false, false, false, false] _ _ _ _ _ (kt h)) (fun h => hK.2 [true, true, true, true, true, true, true, false, false] _ _ _ _ _ (kf h)))
set_option maxRecDepth 4000 in
theorem B_X11_which_56n {Q : oQ} {K : oK} (hK : oCl tb_X11_which Q K) {sh : oS} (hs : Sh sh) {I : Nat → Nat → Int} {L : Nat → Nat → Int64} {x1 : Int} {x3 : Int} {x4 : Int} {x5 : Int} {x6 : Int} (n62a : inR x6) (n62b : inR (I 0 9)) (kt : I 0 9 ≤ x6 → K 156 [none, none, none, some (vI x3), none, none, none, none, none] [] (sh, I, L) (0, 0)) (kf : ¬ (I 0 9 ≤ x6) → K 65 [some (vR 0), some (vI x1), some vN, some (vI x3), some (vI x4), some (vI x5), some (vI x6), none, none] [] (sh, I, L) (0, 0)) : K 56 [some (vR 0), some (vI x1), some vN, some (vI x3), some (vI x4), some (vI x5), some (vI x6), none, none] [] (sh, I, L) (0, 0) := by
  refine hK.1 56 [some (vR 0), some (vI x1), some vN, some (vI x3), some (vI x4), some (vI x5), some (vI x6), none, none] [] (sh, I, L) (0, 0) ?_
  refine hK.1 58 [some (vR 0), some (vI x1), some vN, some (vI x3), some (vI x4), some (vI x5), some (vI x6), none, none] [vI x6] (sh, I, L) (0, 0) ?_
  refine hK.1 59 [some (vR 0), some (vI x1), some vN, some (vI x3), some (vI x4), some (vI x5), some (vI x6), none, none] [vR 0, vI x6] (sh, I, L) (0, 0) ?_
  refine And.intro (mem1 (sk_0 hs)) ?_
  refine hK.1 62 [some (vR 0), some (vI x1), some vN, some (vI x3), some (vI x4), some (vI x5), some (vI x6), none, none] [vI (I 0 9), vI x6] (sh, I, L) (0, 0) ?_
  exact And.intro (And.intro n62a n62b) (And.intro (fun h => hK.2 [false, false, false, true, false, false, false, false, false] _ _ _ _ _ (kt h)) (fun h => hK.2 [true, true, true, true, true, true, true, false, false] _ _ _ _ _ (kf h)))
set_option maxRecDepth 4000 in
theorem B_X11_which_65 {Q : oQ} {K : oK} (hK : oCl tb_X11_which Q K) {sh : oS} {I : Nat → Nat → Int} {L : Nat → Nat → Int64} {x1 : Int} {h2 : Nat} {x3 : Int} {x4 : Int} {x5 : Int} {x6 : Int} (k : K 68 [some (vR 0), some (vI x1), some (vR h2), some (vI x3), some (vI x4), some (vI x5), some (vI x6), some (vI 0), none] [] (sh, I, L) (0, 0)) : K 65 [some (vR 0), some (vI x1), some (vR h2), some (vI x3), some (vI x4), some (vI x5), some (vI x6), none, none] [] (sh, I, L) (0, 0) := by
  refine hK.1 65 [some (vR 0), some (vI x1), some (vR h2), some (vI x3), some (vI x4), some (vI x5), some (vI x6), none, none] [] (sh, I, L) (0, 0) ?_
  refine hK.1 66 [some (vR 0), some (vI x1), some (vR h2), some (vI x3), some (vI x4), some (vI x5), some (vI x6), none, none] [vI 0] (sh, I, L) (0, 0) ?_
  exact k
set_option maxRecDepth 4000 in
theorem B_X11_which_65n {Q : oQ} {K : oK} (hK : oCl tb_X11_which Q K) {sh : oS} {I : Nat → Nat → Int} {L : Nat → Nat → Int64} {x1 : Int} {x3 : Int} {x4 : Int} {x5 : Int} {x6 : Int} (k : K 68 [some (vR 0), some (vI x1), some vN, some (vI x3), some (vI x4), some (vI x5), some (vI x6), some (vI 0), none] [] (sh, I, L) (0, 0)) : K 65 [some (vR 0), some (vI x1), some vN, some (vI x3), some (vI x4), some (vI x5), some (vI x6), none, none] [] (sh, I, L) (0, 0) := by
  refine hK.1 65 [some (vR 0), some (vI x1), some vN, some (vI x3), some (vI x4), some (vI x5), some (vI x6), none, none] [] (sh, I, L) (0, 0) ?_
  refine hK.1 66 [some (vR 0), some (vI x1), some vN, some (vI x3), some (vI x4), some (vI x5), some (vI x6), none, none] [vI 0] (sh, I, L) (0, 0) ?_
  exact k
set_option maxRecDepth 4000 in
theorem B_X11_which_68 {Q : oQ} {K : oK} (hK : oCl tb_X11_which Q K) {sh : oS} {I : Nat → Nat → Int} {L : Nat → Nat → Int64} {x1 : Int} {h2 : Nat} {x3 : Int} {x4 : Int} {x5 : Int} {x6 : Int} {x7 : Int} {h2e h2p h2t : Nat} (k : T_X6_wayOn [vR h2] (sh, I, L) (fun r mm => K 74 [some (vR 0), some (vI x1), some (vR h2), some (vI x3), some (vI x4), some (vI x5), some (vI x6), some (vI x7), none] (r.toList ++ [vI x7]) mm (0, 0))) (Ah2 : MarchAt sh h2 h2e h2p h2t) : K 68 [some (vR 0), some (vI x1), some (vR h2), some (vI x3), some (vI x4), some (vI x5), some (vI x6), some (vI x7), none] [] (sh, I, L) (0, 0) := by
  refine hK.1 68 [some (vR 0), some (vI x1), some (vR h2), some (vI x3), some (vI x4), some (vI x5), some (vI x6), some (vI x7), none] [] (sh, I, L) (0, 0) ?_
  refine hK.1 70 [some (vR 0), some (vI x1), some (vR h2), some (vI x3), some (vI x4), some (vI x5), some (vI x6), some (vI x7), none] [vI x7] (sh, I, L) (0, 0) ?_
  refine hK.1 71 [some (vR 0), some (vI x1), some (vR h2), some (vI x3), some (vI x4), some (vI x5), some (vI x6), some (vI x7), none] [vR h2, vI x7] (sh, I, L) (0, 0) ?_
  exact And.intro ⟨Ah2.1, Nat.le_of_ble_eq_true rfl, Nat.le_of_ble_eq_true rfl, Nat.le_of_ble_eq_true rfl, Nat.le_of_ble_eq_true rfl⟩ k
set_option maxRecDepth 4000 in
theorem B_X11_which_74 {Q : oQ} {K : oK} (hK : oCl tb_X11_which Q K) {sh : oS} {I : Nat → Nat → Int} {L : Nat → Nat → Int64} {x1 : Int} {h2 : Nat} {x3 : Int} {x4 : Int} {x5 : Int} {x6 : Int} {x7 : Int} {s0 : Int} {s1 : Int} (n74a : inR s0) (n74b : inR s1) (kt : s1 < s0 → K 93 [some (vR 0), some (vI x1), some (vR h2), some (vI x3), some (vI x4), some (vI x5), some (vI x6), none, none] [] (sh, I, L) (0, 0)) (kf : ¬ (s1 < s0) → K 77 [some (vR 0), some (vI x1), some (vR h2), some (vI x3), some (vI x4), some (vI x5), some (vI x6), some (vI x7), none] [] (sh, I, L) (0, 0)) : K 74 [some (vR 0), some (vI x1), some (vR h2), some (vI x3), some (vI x4), some (vI x5), some (vI x6), some (vI x7), none] [vI s1, vI s0] (sh, I, L) (0, 0) := by
  refine hK.1 74 [some (vR 0), some (vI x1), some (vR h2), some (vI x3), some (vI x4), some (vI x5), some (vI x6), some (vI x7), none] [vI s1, vI s0] (sh, I, L) (0, 0) ?_
  exact And.intro (And.intro n74a n74b) (And.intro (fun h => hK.2 [true, true, true, true, true, true, true, false, false] _ _ _ _ _ (kt h)) (fun h => hK.2 [true, true, true, true, true, true, true, true, false] _ _ _ _ _ (kf h)))
set_option maxRecDepth 4000 in
theorem B_X11_which_74n {Q : oQ} {K : oK} (hK : oCl tb_X11_which Q K) {sh : oS} {I : Nat → Nat → Int} {L : Nat → Nat → Int64} {x1 : Int} {x3 : Int} {x4 : Int} {x5 : Int} {x6 : Int} {x7 : Int} {s0 : Int} {s1 : Int} (n74a : inR s0) (n74b : inR s1) (kt : s1 < s0 → K 93 [some (vR 0), some (vI x1), some vN, some (vI x3), some (vI x4), some (vI x5), some (vI x6), none, none] [] (sh, I, L) (0, 0)) (kf : ¬ (s1 < s0) → K 77 [some (vR 0), some (vI x1), some vN, some (vI x3), some (vI x4), some (vI x5), some (vI x6), some (vI x7), none] [] (sh, I, L) (0, 0)) : K 74 [some (vR 0), some (vI x1), some vN, some (vI x3), some (vI x4), some (vI x5), some (vI x6), some (vI x7), none] [vI s1, vI s0] (sh, I, L) (0, 0) := by
  refine hK.1 74 [some (vR 0), some (vI x1), some vN, some (vI x3), some (vI x4), some (vI x5), some (vI x6), some (vI x7), none] [vI s1, vI s0] (sh, I, L) (0, 0) ?_
  exact And.intro (And.intro n74a n74b) (And.intro (fun h => hK.2 [true, true, true, true, true, true, true, false, false] _ _ _ _ _ (kt h)) (fun h => hK.2 [true, true, true, true, true, true, true, true, false] _ _ _ _ _ (kf h)))
set_option maxRecDepth 4000 in
theorem B_X11_which_77 {Q : oQ} {K : oK} (hK : oCl tb_X11_which Q K) {sh : oS} (hs : Sh sh) {I : Nat → Nat → Int} {L : Nat → Nat → Int64} {x1 : Int} {h2 : Nat} {x3 : Int} {x4 : Int} {x5 : Int} {x6 : Int} {x7 : Int} (k : T_X11_solved [vR 0, vI x6, vI x1, vI x7] (sh, I, L) (fun r mm => K 86 [some (vR 0), some (vI x1), some (vR h2), some (vI x3), some (vI x4), some (vI x5), some (vI x6), some (vI x7), none] (r.toList ++ []) mm (0, 0))) : K 77 [some (vR 0), some (vI x1), some (vR h2), some (vI x3), some (vI x4), some (vI x5), some (vI x6), some (vI x7), none] [] (sh, I, L) (0, 0) := by
  refine hK.1 77 [some (vR 0), some (vI x1), some (vR h2), some (vI x3), some (vI x4), some (vI x5), some (vI x6), some (vI x7), none] [] (sh, I, L) (0, 0) ?_
  refine hK.1 78 [some (vR 0), some (vI x1), some (vR h2), some (vI x3), some (vI x4), some (vI x5), some (vI x6), some (vI x7), none] [vR 0] (sh, I, L) (0, 0) ?_
  refine hK.1 80 [some (vR 0), some (vI x1), some (vR h2), some (vI x3), some (vI x4), some (vI x5), some (vI x6), some (vI x7), none] [vI x6, vR 0] (sh, I, L) (0, 0) ?_
  refine hK.1 81 [some (vR 0), some (vI x1), some (vR h2), some (vI x3), some (vI x4), some (vI x5), some (vI x6), some (vI x7), none] [vI x1, vI x6, vR 0] (sh, I, L) (0, 0) ?_
  refine hK.1 83 [some (vR 0), some (vI x1), some (vR h2), some (vI x3), some (vI x4), some (vI x5), some (vI x6), some (vI x7), none] [vI x7, vI x1, vI x6, vR 0] (sh, I, L) (0, 0) ?_
  exact And.intro ⟨(sk_0 hs), Nat.le_of_ble_eq_true rfl, Nat.le_of_ble_eq_true rfl, Nat.le_of_ble_eq_true rfl, Nat.le_of_ble_eq_true rfl⟩ k
set_option maxRecDepth 4000 in
theorem B_X11_which_77n {Q : oQ} {K : oK} (hK : oCl tb_X11_which Q K) {sh : oS} (hs : Sh sh) {I : Nat → Nat → Int} {L : Nat → Nat → Int64} {x1 : Int} {x3 : Int} {x4 : Int} {x5 : Int} {x6 : Int} {x7 : Int} (k : T_X11_solved [vR 0, vI x6, vI x1, vI x7] (sh, I, L) (fun r mm => K 86 [some (vR 0), some (vI x1), some vN, some (vI x3), some (vI x4), some (vI x5), some (vI x6), some (vI x7), none] (r.toList ++ []) mm (0, 0))) : K 77 [some (vR 0), some (vI x1), some vN, some (vI x3), some (vI x4), some (vI x5), some (vI x6), some (vI x7), none] [] (sh, I, L) (0, 0) := by
  refine hK.1 77 [some (vR 0), some (vI x1), some vN, some (vI x3), some (vI x4), some (vI x5), some (vI x6), some (vI x7), none] [] (sh, I, L) (0, 0) ?_
  refine hK.1 78 [some (vR 0), some (vI x1), some vN, some (vI x3), some (vI x4), some (vI x5), some (vI x6), some (vI x7), none] [vR 0] (sh, I, L) (0, 0) ?_
  refine hK.1 80 [some (vR 0), some (vI x1), some vN, some (vI x3), some (vI x4), some (vI x5), some (vI x6), some (vI x7), none] [vI x6, vR 0] (sh, I, L) (0, 0) ?_
  refine hK.1 81 [some (vR 0), some (vI x1), some vN, some (vI x3), some (vI x4), some (vI x5), some (vI x6), some (vI x7), none] [vI x1, vI x6, vR 0] (sh, I, L) (0, 0) ?_
  refine hK.1 83 [some (vR 0), some (vI x1), some vN, some (vI x3), some (vI x4), some (vI x5), some (vI x6), some (vI x7), none] [vI x7, vI x1, vI x6, vR 0] (sh, I, L) (0, 0) ?_
  exact And.intro ⟨(sk_0 hs), Nat.le_of_ble_eq_true rfl, Nat.le_of_ble_eq_true rfl, Nat.le_of_ble_eq_true rfl, Nat.le_of_ble_eq_true rfl⟩ k
set_option maxRecDepth 4000 in
theorem B_X11_which_86 {Q : oQ} {K : oK} (hK : oCl tb_X11_which Q K) {sh : oS} {I : Nat → Nat → Int} {L : Nat → Nat → Int64} {x1 : Int} {h2 : Nat} {x3 : Int} {x4 : Int} {x5 : Int} {x6 : Int} {x7 : Int} {s0 : Int} (k : K 68 [some (vR 0), some (vI x1), some (vR h2), some (vI x3), some (vI x4), some (vI x5), some (vI x6), some (vI (x7 + 1)), none] [] (sh, I, L) (0, 0)) : K 86 [some (vR 0), some (vI x1), some (vR h2), some (vI x3), some (vI x4), some (vI x5), some (vI x6), some (vI x7), none] [vI s0] (sh, I, L) (0, 0) := by
  refine hK.1 86 [some (vR 0), some (vI x1), some (vR h2), some (vI x3), some (vI x4), some (vI x5), some (vI x6), some (vI x7), none] [vI s0] (sh, I, L) (0, 0) ?_
  refine hK.1 87 [some (vR 0), some (vI x1), some (vR h2), some (vI x3), some (vI x4), some (vI x5), some (vI x6), some (vI x7), none] [] (sh, I, L) (0, 0) ?_
  refine hK.1 90 [some (vR 0), some (vI x1), some (vR h2), some (vI x3), some (vI x4), some (vI x5), some (vI x6), some (vI (x7 + 1)), none] [] (sh, I, L) (0, 0) ?_
  exact k
set_option maxRecDepth 4000 in
theorem B_X11_which_86n {Q : oQ} {K : oK} (hK : oCl tb_X11_which Q K) {sh : oS} {I : Nat → Nat → Int} {L : Nat → Nat → Int64} {x1 : Int} {x3 : Int} {x4 : Int} {x5 : Int} {x6 : Int} {x7 : Int} {s0 : Int} (k : K 68 [some (vR 0), some (vI x1), some vN, some (vI x3), some (vI x4), some (vI x5), some (vI x6), some (vI (x7 + 1)), none] [] (sh, I, L) (0, 0)) : K 86 [some (vR 0), some (vI x1), some vN, some (vI x3), some (vI x4), some (vI x5), some (vI x6), some (vI x7), none] [vI s0] (sh, I, L) (0, 0) := by
  refine hK.1 86 [some (vR 0), some (vI x1), some vN, some (vI x3), some (vI x4), some (vI x5), some (vI x6), some (vI x7), none] [vI s0] (sh, I, L) (0, 0) ?_
  refine hK.1 87 [some (vR 0), some (vI x1), some vN, some (vI x3), some (vI x4), some (vI x5), some (vI x6), some (vI x7), none] [] (sh, I, L) (0, 0) ?_
  refine hK.1 90 [some (vR 0), some (vI x1), some vN, some (vI x3), some (vI x4), some (vI x5), some (vI x6), some (vI (x7 + 1)), none] [] (sh, I, L) (0, 0) ?_
  exact k
set_option maxRecDepth 4000 in
theorem B_X11_which_93 {Q : oQ} {K : oK} (hK : oCl tb_X11_which Q K) {sh : oS} (hs : Sh sh) {I : Nat → Nat → Int} {L : Nat → Nat → Int64} {x1 : Int} {h2 : Nat} {x3 : Int} {x4 : Int} {x5 : Int} {x6 : Int} (k : T_X11_weighed [vR 0, vI x6, vI x1, vI 0] (sh, I, L) (fun r mm => K 101 [some (vR 0), some (vI x1), some (vR h2), some (vI x3), some (vI x4), some (vI x5), some (vI x6), none, none] (r.toList ++ []) mm (0, 0))) : K 93 [some (vR 0), some (vI x1), some (vR h2), some (vI x3), some (vI x4), some (vI x5), some (vI x6), none, none] [] (sh, I, L) (0, 0) := by
  refine hK.1 93 [some (vR 0), some (vI x1), some (vR h2), some (vI x3), some (vI x4), some (vI x5), some (vI x6), none, none] [] (sh, I, L) (0, 0) ?_
  refine hK.1 94 [some (vR 0), some (vI x1), some (vR h2), some (vI x3), some (vI x4), some (vI x5), some (vI x6), none, none] [vR 0] (sh, I, L) (0, 0) ?_
  refine hK.1 96 [some (vR 0), some (vI x1), some (vR h2), some (vI x3), some (vI x4), some (vI x5), some (vI x6), none, none] [vI x6, vR 0] (sh, I, L) (0, 0) ?_
  refine hK.1 97 [some (vR 0), some (vI x1), some (vR h2), some (vI x3), some (vI x4), some (vI x5), some (vI x6), none, none] [vI x1, vI x6, vR 0] (sh, I, L) (0, 0) ?_
  refine hK.1 98 [some (vR 0), some (vI x1), some (vR h2), some (vI x3), some (vI x4), some (vI x5), some (vI x6), none, none] [vI 0, vI x1, vI x6, vR 0] (sh, I, L) (0, 0) ?_
  exact And.intro ⟨(sk_0 hs), Nat.le_of_ble_eq_true rfl, Nat.le_of_ble_eq_true rfl, Nat.le_of_ble_eq_true rfl, Nat.le_of_ble_eq_true rfl⟩ k
set_option maxRecDepth 4000 in
theorem B_X11_which_93n {Q : oQ} {K : oK} (hK : oCl tb_X11_which Q K) {sh : oS} (hs : Sh sh) {I : Nat → Nat → Int} {L : Nat → Nat → Int64} {x1 : Int} {x3 : Int} {x4 : Int} {x5 : Int} {x6 : Int} (k : T_X11_weighed [vR 0, vI x6, vI x1, vI 0] (sh, I, L) (fun r mm => K 101 [some (vR 0), some (vI x1), some vN, some (vI x3), some (vI x4), some (vI x5), some (vI x6), none, none] (r.toList ++ []) mm (0, 0))) : K 93 [some (vR 0), some (vI x1), some vN, some (vI x3), some (vI x4), some (vI x5), some (vI x6), none, none] [] (sh, I, L) (0, 0) := by
  refine hK.1 93 [some (vR 0), some (vI x1), some vN, some (vI x3), some (vI x4), some (vI x5), some (vI x6), none, none] [] (sh, I, L) (0, 0) ?_
  refine hK.1 94 [some (vR 0), some (vI x1), some vN, some (vI x3), some (vI x4), some (vI x5), some (vI x6), none, none] [vR 0] (sh, I, L) (0, 0) ?_
  refine hK.1 96 [some (vR 0), some (vI x1), some vN, some (vI x3), some (vI x4), some (vI x5), some (vI x6), none, none] [vI x6, vR 0] (sh, I, L) (0, 0) ?_
  refine hK.1 97 [some (vR 0), some (vI x1), some vN, some (vI x3), some (vI x4), some (vI x5), some (vI x6), none, none] [vI x1, vI x6, vR 0] (sh, I, L) (0, 0) ?_
  refine hK.1 98 [some (vR 0), some (vI x1), some vN, some (vI x3), some (vI x4), some (vI x5), some (vI x6), none, none] [vI 0, vI x1, vI x6, vR 0] (sh, I, L) (0, 0) ?_
  exact And.intro ⟨(sk_0 hs), Nat.le_of_ble_eq_true rfl, Nat.le_of_ble_eq_true rfl, Nat.le_of_ble_eq_true rfl, Nat.le_of_ble_eq_true rfl⟩ k
set_option maxRecDepth 4000 in
theorem B_X11_which_101 {Q : oQ} {K : oK} (hK : oCl tb_X11_which Q K) {sh : oS} (hs : Sh sh) {I : Nat → Nat → Int} {L : Nat → Nat → Int64} {x1 : Int} {h2 : Nat} {x3 : Int} {x4 : Int} {x5 : Int} {x6 : Int} {s0 : Int} (k : T_X11_weighed [vR 0, vI x6, vI x1, vI 1] (sh, I, L) (fun r mm => K 111 [some (vR 0), some (vI x1), some (vR h2), some (vI x3), some (vI x4), some (vI x5), some (vI x6), some (vI s0), none] (r.toList ++ []) mm (0, 0))) : K 101 [some (vR 0), some (vI x1), some (vR h2), some (vI x3), some (vI x4), some (vI x5), some (vI x6), none, none] [vI s0] (sh, I, L) (0, 0) := by
  refine hK.1 101 [some (vR 0), some (vI x1), some (vR h2), some (vI x3), some (vI x4), some (vI x5), some (vI x6), none, none] [vI s0] (sh, I, L) (0, 0) ?_
  refine hK.1 103 [some (vR 0), some (vI x1), some (vR h2), some (vI x3), some (vI x4), some (vI x5), some (vI x6), some (vI s0), none] [] (sh, I, L) (0, 0) ?_
  refine hK.1 104 [some (vR 0), some (vI x1), some (vR h2), some (vI x3), some (vI x4), some (vI x5), some (vI x6), some (vI s0), none] [vR 0] (sh, I, L) (0, 0) ?_
  refine hK.1 106 [some (vR 0), some (vI x1), some (vR h2), some (vI x3), some (vI x4), some (vI x5), some (vI x6), some (vI s0), none] [vI x6, vR 0] (sh, I, L) (0, 0) ?_
  refine hK.1 107 [some (vR 0), some (vI x1), some (vR h2), some (vI x3), some (vI x4), some (vI x5), some (vI x6), some (vI s0), none] [vI x1, vI x6, vR 0] (sh, I, L) (0, 0) ?_
  refine hK.1 108 [some (vR 0), some (vI x1), some (vR h2), some (vI x3), some (vI x4), some (vI x5), some (vI x6), some (vI s0), none] [vI 1, vI x1, vI x6, vR 0] (sh, I, L) (0, 0) ?_
  exact And.intro ⟨(sk_0 hs), Nat.le_of_ble_eq_true rfl, Nat.le_of_ble_eq_true rfl, Nat.le_of_ble_eq_true rfl, Nat.le_of_ble_eq_true rfl⟩ k
set_option maxRecDepth 4000 in
theorem B_X11_which_101n {Q : oQ} {K : oK} (hK : oCl tb_X11_which Q K) {sh : oS} (hs : Sh sh) {I : Nat → Nat → Int} {L : Nat → Nat → Int64} {x1 : Int} {x3 : Int} {x4 : Int} {x5 : Int} {x6 : Int} {s0 : Int} (k : T_X11_weighed [vR 0, vI x6, vI x1, vI 1] (sh, I, L) (fun r mm => K 111 [some (vR 0), some (vI x1), some vN, some (vI x3), some (vI x4), some (vI x5), some (vI x6), some (vI s0), none] (r.toList ++ []) mm (0, 0))) : K 101 [some (vR 0), some (vI x1), some vN, some (vI x3), some (vI x4), some (vI x5), some (vI x6), none, none] [vI s0] (sh, I, L) (0, 0) := by
  refine hK.1 101 [some (vR 0), some (vI x1), some vN, some (vI x3), some (vI x4), some (vI x5), some (vI x6), none, none] [vI s0] (sh, I, L) (0, 0) ?_
  refine hK.1 103 [some (vR 0), some (vI x1), some vN, some (vI x3), some (vI x4), some (vI x5), some (vI x6), some (vI s0), none] [] (sh, I, L) (0, 0) ?_
  refine hK.1 104 [some (vR 0), some (vI x1), some vN, some (vI x3), some (vI x4), some (vI x5), some (vI x6), some (vI s0), none] [vR 0] (sh, I, L) (0, 0) ?_
  refine hK.1 106 [some (vR 0), some (vI x1), some vN, some (vI x3), some (vI x4), some (vI x5), some (vI x6), some (vI s0), none] [vI x6, vR 0] (sh, I, L) (0, 0) ?_
  refine hK.1 107 [some (vR 0), some (vI x1), some vN, some (vI x3), some (vI x4), some (vI x5), some (vI x6), some (vI s0), none] [vI x1, vI x6, vR 0] (sh, I, L) (0, 0) ?_
  refine hK.1 108 [some (vR 0), some (vI x1), some vN, some (vI x3), some (vI x4), some (vI x5), some (vI x6), some (vI s0), none] [vI 1, vI x1, vI x6, vR 0] (sh, I, L) (0, 0) ?_
  exact And.intro ⟨(sk_0 hs), Nat.le_of_ble_eq_true rfl, Nat.le_of_ble_eq_true rfl, Nat.le_of_ble_eq_true rfl, Nat.le_of_ble_eq_true rfl⟩ k
set_option maxRecDepth 4000 in
theorem B_X11_which_111 {Q : oQ} {K : oK} (hK : oCl tb_X11_which Q K) {sh : oS} {I : Nat → Nat → Int} {L : Nat → Nat → Int64} {x1 : Int} {h2 : Nat} {x3 : Int} {x4 : Int} {x5 : Int} {x6 : Int} {x7 : Int} {s0 : Int} (n115a : inR x3) (kt : x3 = (-1) → K 139 [some (vR 0), some (vI x1), some (vR h2), none, none, none, some (vI x6), some (vI x7), some (vI s0)] [] (sh, I, L) (0, 0)) (kf : ¬ (x3 = (-1)) → K 118 [some (vR 0), some (vI x1), some (vR h2), some (vI x3), some (vI x4), some (vI x5), some (vI x6), some (vI x7), some (vI s0)] [] (sh, I, L) (0, 0)) : K 111 [some (vR 0), some (vI x1), some (vR h2), some (vI x3), some (vI x4), some (vI x5), some (vI x6), some (vI x7), none] [vI s0] (sh, I, L) (0, 0) := by
  refine hK.1 111 [some (vR 0), some (vI x1), some (vR h2), some (vI x3), some (vI x4), some (vI x5), some (vI x6), some (vI x7), none] [vI s0] (sh, I, L) (0, 0) ?_
  refine hK.1 113 [some (vR 0), some (vI x1), some (vR h2), some (vI x3), some (vI x4), some (vI x5), some (vI x6), some (vI x7), some (vI s0)] [] (sh, I, L) (0, 0) ?_
  refine hK.1 114 [some (vR 0), some (vI x1), some (vR h2), some (vI x3), some (vI x4), some (vI x5), some (vI x6), some (vI x7), some (vI s0)] [vI x3] (sh, I, L) (0, 0) ?_
  refine hK.1 115 [some (vR 0), some (vI x1), some (vR h2), some (vI x3), some (vI x4), some (vI x5), some (vI x6), some (vI x7), some (vI s0)] [vI (-1), vI x3] (sh, I, L) (0, 0) ?_
  exact And.intro (And.intro n115a ⟨by decide, by decide⟩) (And.intro (fun h => hK.2 [true, true, true, false, false, false, true, true, true] _ _ _ _ _ (kt h)) (fun h => hK.2 [true, true, true, true, true, true, true, true, true] _ _ _ _ _ (kf h)))
set_option maxRecDepth 4000 in
theorem B_X11_which_111n {Q : oQ} {K : oK} (hK : oCl tb_X11_which Q K) {sh : oS} {I : Nat → Nat → Int} {L : Nat → Nat → Int64} {x1 : Int} {x3 : Int} {x4 : Int} {x5 : Int} {x6 : Int} {x7 : Int} {s0 : Int} (n115a : inR x3) (kt : x3 = (-1) → K 139 [some (vR 0), some (vI x1), some vN, none, none, none, some (vI x6), some (vI x7), some (vI s0)] [] (sh, I, L) (0, 0)) (kf : ¬ (x3 = (-1)) → K 118 [some (vR 0), some (vI x1), some vN, some (vI x3), some (vI x4), some (vI x5), some (vI x6), some (vI x7), some (vI s0)] [] (sh, I, L) (0, 0)) : K 111 [some (vR 0), some (vI x1), some vN, some (vI x3), some (vI x4), some (vI x5), some (vI x6), some (vI x7), none] [vI s0] (sh, I, L) (0, 0) := by
  refine hK.1 111 [some (vR 0), some (vI x1), some vN, some (vI x3), some (vI x4), some (vI x5), some (vI x6), some (vI x7), none] [vI s0] (sh, I, L) (0, 0) ?_
  refine hK.1 113 [some (vR 0), some (vI x1), some vN, some (vI x3), some (vI x4), some (vI x5), some (vI x6), some (vI x7), some (vI s0)] [] (sh, I, L) (0, 0) ?_
  refine hK.1 114 [some (vR 0), some (vI x1), some vN, some (vI x3), some (vI x4), some (vI x5), some (vI x6), some (vI x7), some (vI s0)] [vI x3] (sh, I, L) (0, 0) ?_
  refine hK.1 115 [some (vR 0), some (vI x1), some vN, some (vI x3), some (vI x4), some (vI x5), some (vI x6), some (vI x7), some (vI s0)] [vI (-1), vI x3] (sh, I, L) (0, 0) ?_
  exact And.intro (And.intro n115a ⟨by decide, by decide⟩) (And.intro (fun h => hK.2 [true, true, true, false, false, false, true, true, true] _ _ _ _ _ (kt h)) (fun h => hK.2 [true, true, true, true, true, true, true, true, true] _ _ _ _ _ (kf h)))
set_option maxRecDepth 4000 in
theorem B_X11_which_118 {Q : oQ} {K : oK} (hK : oCl tb_X11_which Q K) {sh : oS} {I : Nat → Nat → Int} {L : Nat → Nat → Int64} {x1 : Int} {h2 : Nat} {x3 : Int} {x4 : Int} {x5 : Int} {x6 : Int} {x7 : Int} {x8 : Int} (n122a : inR x7) (n122b : inR x4) (kt : x7 < x4 → K 139 [some (vR 0), some (vI x1), some (vR h2), none, none, none, some (vI x6), some (vI x7), some (vI x8)] [] (sh, I, L) (0, 0)) (kf : ¬ (x7 < x4) → K 125 [some (vR 0), some (vI x1), some (vR h2), some (vI x3), some (vI x4), some (vI x5), some (vI x6), some (vI x7), some (vI x8)] [] (sh, I, L) (0, 0)) : K 118 [some (vR 0), some (vI x1), some (vR h2), some (vI x3), some (vI x4), some (vI x5), some (vI x6), some (vI x7), some (vI x8)] [] (sh, I, L) (0, 0) := by
  refine hK.1 118 [some (vR 0), some (vI x1), some (vR h2), some (vI x3), some (vI x4), some (vI x5), some (vI x6), some (vI x7), some (vI x8)] [] (sh, I, L) (0, 0) ?_
  refine hK.1 120 [some (vR 0), some (vI x1), some (vR h2), some (vI x3), some (vI x4), some (vI x5), some (vI x6), some (vI x7), some (vI x8)] [vI x7] (sh, I, L) (0, 0) ?_
  refine hK.1 122 [some (vR 0), some (vI x1), some (vR h2), some (vI x3), some (vI x4), some (vI x5), some (vI x6), some (vI x7), some (vI x8)] [vI x4, vI x7] (sh, I, L) (0, 0) ?_
  exact And.intro (And.intro n122a n122b) (And.intro (fun h => hK.2 [true, true, true, false, false, false, true, true, true] _ _ _ _ _ (kt h)) (fun h => hK.2 [true, true, true, true, true, true, true, true, true] _ _ _ _ _ (kf h)))
set_option maxRecDepth 4000 in
theorem B_X11_which_118n {Q : oQ} {K : oK} (hK : oCl tb_X11_which Q K) {sh : oS} {I : Nat → Nat → Int} {L : Nat → Nat → Int64} {x1 : Int} {x3 : Int} {x4 : Int} {x5 : Int} {x6 : Int} {x7 : Int} {x8 : Int} (n122a : inR x7) (n122b : inR x4) (kt : x7 < x4 → K 139 [some (vR 0), some (vI x1), some vN, none, none, none, some (vI x6), some (vI x7), some (vI x8)] [] (sh, I, L) (0, 0)) (kf : ¬ (x7 < x4) → K 125 [some (vR 0), some (vI x1), some vN, some (vI x3), some (vI x4), some (vI x5), some (vI x6), some (vI x7), some (vI x8)] [] (sh, I, L) (0, 0)) : K 118 [some (vR 0), some (vI x1), some vN, some (vI x3), some (vI x4), some (vI x5), some (vI x6), some (vI x7), some (vI x8)] [] (sh, I, L) (0, 0) := by
  refine hK.1 118 [some (vR 0), some (vI x1), some vN, some (vI x3), some (vI x4), some (vI x5), some (vI x6), some (vI x7), some (vI x8)] [] (sh, I, L) (0, 0) ?_
  refine hK.1 120 [some (vR 0), some (vI x1), some vN, some (vI x3), some (vI x4), some (vI x5), some (vI x6), some (vI x7), some (vI x8)] [vI x7] (sh, I, L) (0, 0) ?_
  refine hK.1 122 [some (vR 0), some (vI x1), some vN, some (vI x3), some (vI x4), some (vI x5), some (vI x6), some (vI x7), some (vI x8)] [vI x4, vI x7] (sh, I, L) (0, 0) ?_
  exact And.intro (And.intro n122a n122b) (And.intro (fun h => hK.2 [true, true, true, false, false, false, true, true, true] _ _ _ _ _ (kt h)) (fun h => hK.2 [true, true, true, true, true, true, true, true, true] _ _ _ _ _ (kf h)))
set_option maxRecDepth 4000 in
theorem B_X11_which_125 {Q : oQ} {K : oK} (hK : oCl tb_X11_which Q K) {sh : oS} {I : Nat → Nat → Int} {L : Nat → Nat → Int64} {x1 : Int} {h2 : Nat} {x3 : Int} {x4 : Int} {x5 : Int} {x6 : Int} {x7 : Int} {x8 : Int} (n129a : inR x7) (n129b : inR x4) (kt : ¬ x7 = x4 → K 150 [some (vR 0), some (vI x1), some (vR h2), some (vI x3), some (vI x4), some (vI x5), some (vI x6), none, none] [] (sh, I, L) (0, 0)) (kf : ¬ (¬ x7 = x4) → K 132 [some (vR 0), some (vI x1), some (vR h2), some (vI x3), some (vI x4), some (vI x5), some (vI x6), some (vI x7), some (vI x8)] [] (sh, I, L) (0, 0)) : K 125 [some (vR 0), some (vI x1), some (vR h2), some (vI x3), some (vI x4), some (vI x5), some (vI x6), some (vI x7), some (vI x8)] [] (sh, I, L) (0, 0) := by
  refine hK.1 125 [some (vR 0), some (vI x1), some (vR h2), some (vI x3), some (vI x4), some (vI x5), some (vI x6), some (vI x7), some (vI x8)] [] (sh, I, L) (0, 0) ?_
  refine hK.1 127 [some (vR 0), some (vI x1), some (vR h2), some (vI x3), some (vI x4), some (vI x5), some (vI x6), some (vI x7), some (vI x8)] [vI x7] (sh, I, L) (0, 0) ?_
  refine hK.1 129 [some (vR 0), some (vI x1), some (vR h2), some (vI x3), some (vI x4), some (vI x5), some (vI x6), some (vI x7), some (vI x8)] [vI x4, vI x7] (sh, I, L) (0, 0) ?_
  exact And.intro (And.intro n129a n129b) (And.intro (fun h => hK.2 [true, true, true, true, true, true, true, false, false] _ _ _ _ _ (kt h)) (fun h => hK.2 [true, true, true, true, true, true, true, true, true] _ _ _ _ _ (kf h)))
set_option maxRecDepth 4000 in
theorem B_X11_which_125n {Q : oQ} {K : oK} (hK : oCl tb_X11_which Q K) {sh : oS} {I : Nat → Nat → Int} {L : Nat → Nat → Int64} {x1 : Int} {x3 : Int} {x4 : Int} {x5 : Int} {x6 : Int} {x7 : Int} {x8 : Int} (n129a : inR x7) (n129b : inR x4) (kt : ¬ x7 = x4 → K 150 [some (vR 0), some (vI x1), some vN, some (vI x3), some (vI x4), some (vI x5), some (vI x6), none, none] [] (sh, I, L) (0, 0)) (kf : ¬ (¬ x7 = x4) → K 132 [some (vR 0), some (vI x1), some vN, some (vI x3), some (vI x4), some (vI x5), some (vI x6), some (vI x7), some (vI x8)] [] (sh, I, L) (0, 0)) : K 125 [some (vR 0), some (vI x1), some vN, some (vI x3), some (vI x4), some (vI x5), some (vI x6), some (vI x7), some (vI x8)] [] (sh, I, L) (0, 0) := by
  refine hK.1 125 [some (vR 0), some (vI x1), some vN, some (vI x3), some (vI x4), some (vI x5), some (vI x6), some (vI x7), some (vI x8)] [] (sh, I, L) (0, 0) ?_
  refine hK.1 127 [some (vR 0), some (vI x1), some vN, some (vI x3), some (vI x4), some (vI x5), some (vI x6), some (vI x7), some (vI x8)] [vI x7] (sh, I, L) (0, 0) ?_
  refine hK.1 129 [some (vR 0), some (vI x1), some vN, some (vI x3), some (vI x4), some (vI x5), some (vI x6), some (vI x7), some (vI x8)] [vI x4, vI x7] (sh, I, L) (0, 0) ?_
  exact And.intro (And.intro n129a n129b) (And.intro (fun h => hK.2 [true, true, true, true, true, true, true, false, false] _ _ _ _ _ (kt h)) (fun h => hK.2 [true, true, true, true, true, true, true, true, true] _ _ _ _ _ (kf h)))
set_option maxRecDepth 4000 in
theorem B_X11_which_132 {Q : oQ} {K : oK} (hK : oCl tb_X11_which Q K) {sh : oS} {I : Nat → Nat → Int} {L : Nat → Nat → Int64} {x1 : Int} {h2 : Nat} {x3 : Int} {x4 : Int} {x5 : Int} {x6 : Int} {x7 : Int} {x8 : Int} (n136a : inR x8) (n136b : inR x5) (kt : x5 ≤ x8 → K 150 [some (vR 0), some (vI x1), some (vR h2), some (vI x3), some (vI x4), some (vI x5), some (vI x6), none, none] [] (sh, I, L) (0, 0)) (kf : ¬ (x5 ≤ x8) → K 139 [some (vR 0), some (vI x1), some (vR h2), none, none, none, some (vI x6), some (vI x7), some (vI x8)] [] (sh, I, L) (0, 0)) : K 132 [some (vR 0), some (vI x1), some (vR h2), some (vI x3), some (vI x4), some (vI x5), some (vI x6), some (vI x7), some (vI x8)] [] (sh, I, L) (0, 0) := by
  refine hK.1 132 [some (vR 0), some (vI x1), some (vR h2), some (vI x3), some (vI x4), some (vI x5), some (vI x6), some (vI x7), some (vI x8)] [] (sh, I, L) (0, 0) ?_
  refine hK.1 134 [some (vR 0), some (vI x1), some (vR h2), some (vI x3), some (vI x4), some (vI x5), some (vI x6), some (vI x7), some (vI x8)] [vI x8] (sh, I, L) (0, 0) ?_
  refine hK.1 136 [some (vR 0), some (vI x1), some (vR h2), some (vI x3), some (vI x4), some (vI x5), some (vI x6), some (vI x7), some (vI x8)] [vI x5, vI x8] (sh, I, L) (0, 0) ?_
  exact And.intro (And.intro n136a n136b) (And.intro (fun h => hK.2 [true, true, true, true, true, true, true, false, false] _ _ _ _ _ (kt h)) (fun h => hK.2 [true, true, true, false, false, false, true, true, true] _ _ _ _ _ (kf h)))
set_option maxRecDepth 4000 in
theorem B_X11_which_132n {Q : oQ} {K : oK} (hK : oCl tb_X11_which Q K) {sh : oS} {I : Nat → Nat → Int} {L : Nat → Nat → Int64} {x1 : Int} {x3 : Int} {x4 : Int} {x5 : Int} {x6 : Int} {x7 : Int} {x8 : Int} (n136a : inR x8) (n136b : inR x5) (kt : x5 ≤ x8 → K 150 [some (vR 0), some (vI x1), some vN, some (vI x3), some (vI x4), some (vI x5), some (vI x6), none, none] [] (sh, I, L) (0, 0)) (kf : ¬ (x5 ≤ x8) → K 139 [some (vR 0), some (vI x1), some vN, none, none, none, some (vI x6), some (vI x7), some (vI x8)] [] (sh, I, L) (0, 0)) : K 132 [some (vR 0), some (vI x1), some vN, some (vI x3), some (vI x4), some (vI x5), some (vI x6), some (vI x7), some (vI x8)] [] (sh, I, L) (0, 0) := by
  refine hK.1 132 [some (vR 0), some (vI x1), some vN, some (vI x3), some (vI x4), some (vI x5), some (vI x6), some (vI x7), some (vI x8)] [] (sh, I, L) (0, 0) ?_
  refine hK.1 134 [some (vR 0), some (vI x1), some vN, some (vI x3), some (vI x4), some (vI x5), some (vI x6), some (vI x7), some (vI x8)] [vI x8] (sh, I, L) (0, 0) ?_
  refine hK.1 136 [some (vR 0), some (vI x1), some vN, some (vI x3), some (vI x4), some (vI x5), some (vI x6), some (vI x7), some (vI x8)] [vI x5, vI x8] (sh, I, L) (0, 0) ?_
  exact And.intro (And.intro n136a n136b) (And.intro (fun h => hK.2 [true, true, true, true, true, true, true, false, false] _ _ _ _ _ (kt h)) (fun h => hK.2 [true, true, true, false, false, false, true, true, true] _ _ _ _ _ (kf h)))
set_option maxRecDepth 4000 in
theorem B_X11_which_139 {Q : oQ} {K : oK} (hK : oCl tb_X11_which Q K) {sh : oS} {I : Nat → Nat → Int} {L : Nat → Nat → Int64} {x1 : Int} {h2 : Nat} {x6 : Int} {x7 : Int} {x8 : Int} (k : K 150 [some (vR 0), some (vI x1), some (vR h2), some (vI x6), some (vI x7), some (vI x8), some (vI x6), none, none] [] (sh, I, L) (0, 0)) : K 139 [some (vR 0), some (vI x1), some (vR h2), none, none, none, some (vI x6), some (vI x7), some (vI x8)] [] (sh, I, L) (0, 0) := by
  refine hK.1 139 [some (vR 0), some (vI x1), some (vR h2), none, none, none, some (vI x6), some (vI x7), some (vI x8)] [] (sh, I, L) (0, 0) ?_
  refine hK.1 141 [some (vR 0), some (vI x1), some (vR h2), none, none, none, some (vI x6), some (vI x7), some (vI x8)] [vI x6] (sh, I, L) (0, 0) ?_
  refine hK.1 142 [some (vR 0), some (vI x1), some (vR h2), some (vI x6), none, none, some (vI x6), some (vI x7), some (vI x8)] [] (sh, I, L) (0, 0) ?_
  refine hK.1 144 [some (vR 0), some (vI x1), some (vR h2), some (vI x6), none, none, some (vI x6), some (vI x7), some (vI x8)] [vI x7] (sh, I, L) (0, 0) ?_
  refine hK.1 146 [some (vR 0), some (vI x1), some (vR h2), some (vI x6), some (vI x7), none, some (vI x6), some (vI x7), some (vI x8)] [] (sh, I, L) (0, 0) ?_
  refine hK.1 148 [some (vR 0), some (vI x1), some (vR h2), some (vI x6), some (vI x7), none, some (vI x6), some (vI x7), some (vI x8)] [vI x8] (sh, I, L) (0, 0) ?_
  refine hK.2 [true, true, true, true, true, true, true, false, false] _ _ _ _ _ ?_
  exact k
set_option maxRecDepth 4000 in
theorem B_X11_which_139n {Q : oQ} {K : oK} (hK : oCl tb_X11_which Q K) {sh : oS} {I : Nat → Nat → Int} {L : Nat → Nat → Int64} {x1 : Int} {x6 : Int} {x7 : Int} {x8 : Int} (k : K 150 [some (vR 0), some (vI x1), some vN, some (vI x6), some (vI x7), some (vI x8), some (vI x6), none, none] [] (sh, I, L) (0, 0)) : K 139 [some (vR 0), some (vI x1), some vN, none, none, none, some (vI x6), some (vI x7), some (vI x8)] [] (sh, I, L) (0, 0) := by
  refine hK.1 139 [some (vR 0), some (vI x1), some vN, none, none, none, some (vI x6), some (vI x7), some (vI x8)] [] (sh, I, L) (0, 0) ?_
  refine hK.1 141 [some (vR 0), some (vI x1), some vN, none, none, none, some (vI x6), some (vI x7), some (vI x8)] [vI x6] (sh, I, L) (0, 0) ?_
  refine hK.1 142 [some (vR 0), some (vI x1), some vN, some (vI x6), none, none, some (vI x6), some (vI x7), some (vI x8)] [] (sh, I, L) (0, 0) ?_
  refine hK.1 144 [some (vR 0), some (vI x1), some vN, some (vI x6), none, none, some (vI x6), some (vI x7), some (vI x8)] [vI x7] (sh, I, L) (0, 0) ?_
  refine hK.1 146 [some (vR 0), some (vI x1), some vN, some (vI x6), some (vI x7), none, some (vI x6), some (vI x7), some (vI x8)] [] (sh, I, L) (0, 0) ?_
  refine hK.1 148 [some (vR 0), some (vI x1), some vN, some (vI x6), some (vI x7), none, some (vI x6), some (vI x7), some (vI x8)] [vI x8] (sh, I, L) (0, 0) ?_
  refine hK.2 [true, true, true, true, true, true, true, false, false] _ _ _ _ _ ?_
  exact k
set_option maxRecDepth 4000 in
theorem B_X11_which_150 {Q : oQ} {K : oK} (hK : oCl tb_X11_which Q K) {sh : oS} {I : Nat → Nat → Int} {L : Nat → Nat → Int64} {x1 : Int} {h2 : Nat} {x3 : Int} {x4 : Int} {x5 : Int} {x6 : Int} (k : K 56 [some (vR 0), some (vI x1), some (vR h2), some (vI x3), some (vI x4), some (vI x5), some (vI (x6 + 1)), none, none] [] (sh, I, L) (0, 0)) : K 150 [some (vR 0), some (vI x1), some (vR h2), some (vI x3), some (vI x4), some (vI x5), some (vI x6), none, none] [] (sh, I, L) (0, 0) := by
  refine hK.1 150 [some (vR 0), some (vI x1), some (vR h2), some (vI x3), some (vI x4), some (vI x5), some (vI x6), none, none] [] (sh, I, L) (0, 0) ?_
  refine hK.1 153 [some (vR 0), some (vI x1), some (vR h2), some (vI x3), some (vI x4), some (vI x5), some (vI (x6 + 1)), none, none] [] (sh, I, L) (0, 0) ?_
  exact k
set_option maxRecDepth 4000 in
theorem B_X11_which_150n {Q : oQ} {K : oK} (hK : oCl tb_X11_which Q K) {sh : oS} {I : Nat → Nat → Int} {L : Nat → Nat → Int64} {x1 : Int} {x3 : Int} {x4 : Int} {x5 : Int} {x6 : Int} (k : K 56 [some (vR 0), some (vI x1), some vN, some (vI x3), some (vI x4), some (vI x5), some (vI (x6 + 1)), none, none] [] (sh, I, L) (0, 0)) : K 150 [some (vR 0), some (vI x1), some vN, some (vI x3), some (vI x4), some (vI x5), some (vI x6), none, none] [] (sh, I, L) (0, 0) := by
  refine hK.1 150 [some (vR 0), some (vI x1), some vN, some (vI x3), some (vI x4), some (vI x5), some (vI x6), none, none] [] (sh, I, L) (0, 0) ?_
  refine hK.1 153 [some (vR 0), some (vI x1), some vN, some (vI x3), some (vI x4), some (vI x5), some (vI (x6 + 1)), none, none] [] (sh, I, L) (0, 0) ?_
  exact k
set_option maxRecDepth 4000 in
theorem B_X11_which_156 {Q : oQ} {K : oK} (hK : oCl tb_X11_which Q K) {sh : oS} {I : Nat → Nat → Int} {L : Nat → Nat → Int64} {x3 : Int} (k : Q (some (vI x3)) (sh, I, L)) : K 156 [none, none, none, some (vI x3), none, none, none, none, none] [] (sh, I, L) (0, 0) := by
  refine hK.1 156 [none, none, none, some (vI x3), none, none, none, none, none] [] (sh, I, L) (0, 0) ?_
  refine hK.1 157 [none, none, none, some (vI x3), none, none, none, none, none] [vI x3] (sh, I, L) (0, 0) ?_
  exact And.intro ⟨by decide, by decide⟩ k
set_option maxRecDepth 4000 in
theorem B_X11_worst_0 {Q : oQ} {K : oK} (hK : oCl tb_X11_worst Q K) {sh : oS} (hs : Sh sh) {I : Nat → Nat → Int} {L : Nat → Nat → Int64} {x1 : Int} {x2 : Int} {x3 : Int} (k : T_X11_refusal [vR 0, vI x1, vI x2] (sh, I, L) (fun r mm => K 6 [some (vR 0), some (vI x1), some (vI x2), some (vI x3), none, none, none, none, none] (r.toList ++ []) mm (0, 0))) : K 0 [some (vR 0), some (vI x1), some (vI x2), some (vI x3), none, none, none, none, none] [] (sh, I, L) (0, 0) := by
  refine hK.1 0 [some (vR 0), some (vI x1), some (vI x2), some (vI x3), none, none, none, none, none] [] (sh, I, L) (0, 0) ?_
  refine hK.1 1 [some (vR 0), some (vI x1), some (vI x2), some (vI x3), none, none, none, none, none] [vR 0] (sh, I, L) (0, 0) ?_
  refine hK.1 2 [some (vR 0), some (vI x1), some (vI x2), some (vI x3), none, none, none, none, none] [vI x1, vR 0] (sh, I, L) (0, 0) ?_
  refine hK.1 3 [some (vR 0), some (vI x1), some (vI x2), some (vI x3), none, none, none, none, none] [vI x2, vI x1, vR 0] (sh, I, L) (0, 0) ?_
  exact And.intro ⟨(sk_0 hs), Nat.le_of_ble_eq_true rfl, Nat.le_of_ble_eq_true rfl, Nat.le_of_ble_eq_true rfl, Nat.le_of_ble_eq_true rfl⟩ k
set_option maxRecDepth 4000 in
theorem B_X11_worst_6 {Q : oQ} {K : oK} (hK : oCl tb_X11_worst Q K) {sh : oS} {I : Nat → Nat → Int} {L : Nat → Nat → Int64} {x1 : Int} {x2 : Int} {x3 : Int} {s0 : Int} (n10 : inR s0) (kt : s0 = 0 → K 16 [some (vR 0), some (vI x1), some (vI x2), some (vI x3), none, none, none, none, none] [] (sh, I, L) (0, 0)) (kf : ¬ (s0 = 0) → K 13 [none, none, none, none, some (vI s0), none, none, none, none] [] (sh, I, L) (0, 0)) : K 6 [some (vR 0), some (vI x1), some (vI x2), some (vI x3), none, none, none, none, none] [vI s0] (sh, I, L) (0, 0) := by
  refine hK.1 6 [some (vR 0), some (vI x1), some (vI x2), some (vI x3), none, none, none, none, none] [vI s0] (sh, I, L) (0, 0) ?_
  refine hK.1 8 [some (vR 0), some (vI x1), some (vI x2), some (vI x3), some (vI s0), none, none, none, none] [] (sh, I, L) (0, 0) ?_
  refine hK.1 10 [some (vR 0), some (vI x1), some (vI x2), some (vI x3), some (vI s0), none, none, none, none] [vI s0] (sh, I, L) (0, 0) ?_
  exact And.intro (n10) (And.intro (fun h => hK.2 [true, true, true, true, false, false, false, false, false] _ _ _ _ _ (kt h)) (fun h => hK.2 [false, false, false, false, true, false, false, false, false] _ _ _ _ _ (kf h)))
set_option maxRecDepth 4000 in
theorem B_X11_worst_13 {Q : oQ} {K : oK} (hK : oCl tb_X11_worst Q K) {sh : oS} {I : Nat → Nat → Int} {L : Nat → Nat → Int64} {x4 : Int} (k : Q (some (vI x4)) (sh, I, L)) : K 13 [none, none, none, none, some (vI x4), none, none, none, none] [] (sh, I, L) (0, 0) := by
  refine hK.1 13 [none, none, none, none, some (vI x4), none, none, none, none] [] (sh, I, L) (0, 0) ?_
  refine hK.1 15 [none, none, none, none, some (vI x4), none, none, none, none] [vI x4] (sh, I, L) (0, 0) ?_
  exact And.intro ⟨by decide, by decide⟩ k
set_option maxRecDepth 4000 in
theorem B_X11_worst_16 {Q : oQ} {K : oK} (hK : oCl tb_X11_worst Q K) {sh : oS} {I : Nat → Nat → Int} {L : Nat → Nat → Int64} {x1 : Int} {x2 : Int} {x3 : Int} (n17 : inR x3) (kt : x3 < 0 → K 25 [none, none, none, none, none, none, none, none, none] [] (sh, I, L) (0, 0)) (kf : ¬ (x3 < 0) → K 20 [some (vR 0), some (vI x1), some (vI x2), some (vI x3), none, none, none, none, none] [] (sh, I, L) (0, 0)) : K 16 [some (vR 0), some (vI x1), some (vI x2), some (vI x3), none, none, none, none, none] [] (sh, I, L) (0, 0) := by
  refine hK.1 16 [some (vR 0), some (vI x1), some (vI x2), some (vI x3), none, none, none, none, none] [] (sh, I, L) (0, 0) ?_
  refine hK.1 17 [some (vR 0), some (vI x1), some (vI x2), some (vI x3), none, none, none, none, none] [vI x3] (sh, I, L) (0, 0) ?_
  exact And.intro (n17) (And.intro (fun h => hK.2 [false, false, false, false, false, false, false, false, false] _ _ _ _ _ (kt h)) (fun h => hK.2 [true, true, true, true, false, false, false, false, false] _ _ _ _ _ (kf h)))
set_option maxRecDepth 4000 in
theorem B_X11_worst_20 {Q : oQ} {K : oK} (hK : oCl tb_X11_worst Q K) {sh : oS} {I : Nat → Nat → Int} {L : Nat → Nat → Int64} {x1 : Int} {x2 : Int} {x3 : Int} (n22a : inR x3) (kt : x3 ≤ 1 → K 28 [some (vR 0), some (vI x1), some (vI x2), some (vI x3), none, none, none, none, none] [] (sh, I, L) (0, 0)) (kf : ¬ (x3 ≤ 1) → K 25 [none, none, none, none, none, none, none, none, none] [] (sh, I, L) (0, 0)) : K 20 [some (vR 0), some (vI x1), some (vI x2), some (vI x3), none, none, none, none, none] [] (sh, I, L) (0, 0) := by
  refine hK.1 20 [some (vR 0), some (vI x1), some (vI x2), some (vI x3), none, none, none, none, none] [] (sh, I, L) (0, 0) ?_
  refine hK.1 21 [some (vR 0), some (vI x1), some (vI x2), some (vI x3), none, none, none, none, none] [vI x3] (sh, I, L) (0, 0) ?_
  refine hK.1 22 [some (vR 0), some (vI x1), some (vI x2), some (vI x3), none, none, none, none, none] [vI 1, vI x3] (sh, I, L) (0, 0) ?_
  exact And.intro (And.intro n22a ⟨by decide, by decide⟩) (And.intro (fun h => hK.2 [true, true, true, true, false, false, false, false, false] _ _ _ _ _ (kt h)) (fun h => hK.2 [false, false, false, false, false, false, false, false, false] _ _ _ _ _ (kf h)))
set_option maxRecDepth 4000 in
theorem B_X11_worst_25 {Q : oQ} {K : oK} (hK : oCl tb_X11_worst Q K) {sh : oS} {I : Nat → Nat → Int} {L : Nat → Nat → Int64}  (k : Q (some (vI (-102))) (sh, I, L)) : K 25 [none, none, none, none, none, none, none, none, none] [] (sh, I, L) (0, 0) := by
  refine hK.1 25 [none, none, none, none, none, none, none, none, none] [] (sh, I, L) (0, 0) ?_
  refine hK.1 27 [none, none, none, none, none, none, none, none, none] [vI (-102)] (sh, I, L) (0, 0) ?_
  exact And.intro ⟨by decide, by decide⟩ k
set_option maxRecDepth 4000 in
theorem B_X11_worst_28 {Q : oQ} {K : oK} (hK : oCl tb_X11_worst Q K) {sh : oS} (hs : Sh sh) {I : Nat → Nat → Int} {L : Nat → Nat → Int64} {x1 : Int} {x2 : Int} {x3 : Int} (k : T_X11_solved [vR 0, vI x1, vI x2, vI 0] (sh, I, L) (fun r mm => K 42 [some (vR 0), some (vI x1), some (vI x2), some (vI x3), none, some (vI 0), none, none, none] (r.toList ++ [vR 41]) mm (0, 0))) : K 28 [some (vR 0), some (vI x1), some (vI x2), some (vI x3), none, none, none, none, none] [] (sh, I, L) (0, 0) := by
  refine hK.1 28 [some (vR 0), some (vI x1), some (vI x2), some (vI x3), none, none, none, none, none] [] (sh, I, L) (0, 0) ?_
  refine hK.1 29 [some (vR 0), some (vI x1), some (vI x2), some (vI x3), none, none, none, none, none] [vI 0] (sh, I, L) (0, 0) ?_
  refine hK.1 31 [some (vR 0), some (vI x1), some (vI x2), some (vI x3), none, some (vI 0), none, none, none] [] (sh, I, L) (0, 0) ?_
  refine hK.1 32 [some (vR 0), some (vI x1), some (vI x2), some (vI x3), none, some (vI 0), none, none, none] [vR 0] (sh, I, L) (0, 0) ?_
  refine And.intro (mem1 (sk_0 hs)) (Exists.intro 41 (And.intro (sr_0_15 hs) ?_))
  refine hK.1 35 [some (vR 0), some (vI x1), some (vI x2), some (vI x3), none, some (vI 0), none, none, none] [vR 41] (sh, I, L) (0, 0) ?_
  refine hK.1 36 [some (vR 0), some (vI x1), some (vI x2), some (vI x3), none, some (vI 0), none, none, none] [vR 0, vR 41] (sh, I, L) (0, 0) ?_
  refine hK.1 37 [some (vR 0), some (vI x1), some (vI x2), some (vI x3), none, some (vI 0), none, none, none] [vI x1, vR 0, vR 41] (sh, I, L) (0, 0) ?_
  refine hK.1 38 [some (vR 0), some (vI x1), some (vI x2), some (vI x3), none, some (vI 0), none, none, none] [vI x2, vI x1, vR 0, vR 41] (sh, I, L) (0, 0) ?_
  refine hK.1 39 [some (vR 0), some (vI x1), some (vI x2), some (vI x3), none, some (vI 0), none, none, none] [vI 0, vI x2, vI x1, vR 0, vR 41] (sh, I, L) (0, 0) ?_
  exact And.intro ⟨(sk_0 hs), Nat.le_of_ble_eq_true rfl, Nat.le_of_ble_eq_true rfl, Nat.le_of_ble_eq_true rfl, Nat.le_of_ble_eq_true rfl⟩ k
set_option maxRecDepth 4000 in
theorem B_X11_worst_42 {Q : oQ} {K : oK} (hK : oCl tb_X11_worst Q K) {sh : oS} (hs : Sh sh) {I : Nat → Nat → Int} {L : Nat → Nat → Int64} {x1 : Int} {x2 : Int} {x3 : Int} {x5 : Int} {s1 : Int} (b42 : 0 ≤ s1 ∧ s1 < 128) (k : K 48 [some (vR 0), some (vI x1), some (vI x2), some (vI x3), none, some (vI x5), some (vI (I 41 (s1.toNat))), some (vI 1), none] [] (sh, I, L) (0, 0)) : K 42 [some (vR 0), some (vI x1), some (vI x2), some (vI x3), none, some (vI x5), none, none, none] [vI s1, vR 41] (sh, I, L) (0, 0) := by
  refine hK.1 42 [some (vR 0), some (vI x1), some (vI x2), some (vI x3), none, some (vI x5), none, none, none] [vI s1, vR 41] (sh, I, L) (0, 0) ?_
  refine And.intro (And.intro (sk_41 hs) (ixL (sl_41 hs) b42)) ?_
  refine hK.1 43 [some (vR 0), some (vI x1), some (vI x2), some (vI x3), none, some (vI x5), none, none, none] [vI (I 41 (s1.toNat))] (sh, I, L) (0, 0) ?_
  refine hK.1 45 [some (vR 0), some (vI x1), some (vI x2), some (vI x3), none, some (vI x5), some (vI (I 41 (s1.toNat))), none, none] [] (sh, I, L) (0, 0) ?_
  refine hK.1 46 [some (vR 0), some (vI x1), some (vI x2), some (vI x3), none, some (vI x5), some (vI (I 41 (s1.toNat))), none, none] [vI 1] (sh, I, L) (0, 0) ?_
  exact k
set_option maxRecDepth 4000 in
theorem B_X11_worst_48 {Q : oQ} {K : oK} (hK : oCl tb_X11_worst Q K) {sh : oS} (hs : Sh sh) {I : Nat → Nat → Int} {L : Nat → Nat → Int64} {x1 : Int} {x2 : Int} {x3 : Int} {x5 : Int} {x6 : Int} {x7 : Int} {q55 : Nat} {q55e q55p q55t : Nat} (b55 : 0 ≤ x2 ∧ x2 < 4) (r55 : sR sh 9 (x2.toNat) = some q55) (k : T_X6_wayOn [vR q55] (sh, I, L) (fun r mm => K 59 [some (vR 0), some (vI x1), some (vI x2), some (vI x3), none, some (vI x5), some (vI x6), some (vI x7), none] (r.toList ++ [vI x7]) mm (0, 0))) (Aq55 : MarchAt sh q55 q55e q55p q55t) : K 48 [some (vR 0), some (vI x1), some (vI x2), some (vI x3), none, some (vI x5), some (vI x6), some (vI x7), none] [] (sh, I, L) (0, 0) := by
  refine hK.1 48 [some (vR 0), some (vI x1), some (vI x2), some (vI x3), none, some (vI x5), some (vI x6), some (vI x7), none] [] (sh, I, L) (0, 0) ?_
  refine hK.1 50 [some (vR 0), some (vI x1), some (vI x2), some (vI x3), none, some (vI x5), some (vI x6), some (vI x7), none] [vI x7] (sh, I, L) (0, 0) ?_
  refine hK.1 51 [some (vR 0), some (vI x1), some (vI x2), some (vI x3), none, some (vI x5), some (vI x6), some (vI x7), none] [vR 0, vI x7] (sh, I, L) (0, 0) ?_
  refine And.intro (mem1 (sk_0 hs)) (Exists.intro 9 (And.intro (sr_0_3 hs) ?_))
  refine hK.1 54 [some (vR 0), some (vI x1), some (vI x2), some (vI x3), none, some (vI x5), some (vI x6), some (vI x7), none] [vR 9, vI x7] (sh, I, L) (0, 0) ?_
  refine hK.1 55 [some (vR 0), some (vI x1), some (vI x2), some (vI x3), none, some (vI x5), some (vI x6), some (vI x7), none] [vI x2, vR 9, vI x7] (sh, I, L) (0, 0) ?_
  refine And.intro (And.intro (sk_9 hs) (ixL (sl_9 hs) b55)) (Exists.intro q55 (And.intro r55 ?_))
  refine hK.1 56 [some (vR 0), some (vI x1), some (vI x2), some (vI x3), none, some (vI x5), some (vI x6), some (vI x7), none] [vR q55, vI x7] (sh, I, L) (0, 0) ?_
  exact And.intro ⟨Aq55.1, Nat.le_of_ble_eq_true rfl, Nat.le_of_ble_eq_true rfl, Nat.le_of_ble_eq_true rfl, Nat.le_of_ble_eq_true rfl⟩ k
set_option maxRecDepth 4000 in
theorem B_X11_worst_59 {Q : oQ} {K : oK} (hK : oCl tb_X11_worst Q K) {sh : oS} {I : Nat → Nat → Int} {L : Nat → Nat → Int64} {x1 : Int} {x2 : Int} {x3 : Int} {x5 : Int} {x6 : Int} {x7 : Int} {s0 : Int} {s1 : Int} (n59a : inR s0) (n59b : inR s1) (kt : s1 < s0 → K 98 [none, none, none, some (vI x3), none, some (vI x5), some (vI x6), none, none] [] (sh, I, L) (0, 0)) (kf : ¬ (s1 < s0) → K 62 [some (vR 0), some (vI x1), some (vI x2), some (vI x3), none, some (vI x5), some (vI x6), some (vI x7), none] [] (sh, I, L) (0, 0)) : K 59 [some (vR 0), some (vI x1), some (vI x2), some (vI x3), none, some (vI x5), some (vI x6), some (vI x7), none] [vI s1, vI s0] (sh, I, L) (0, 0) := by
  refine hK.1 59 [some (vR 0), some (vI x1), some (vI x2), some (vI x3), none, some (vI x5), some (vI x6), some (vI x7), none] [vI s1, vI s0] (sh, I, L) (0, 0) ?_
  exact And.intro (And.intro n59a n59b) (And.intro (fun h => hK.2 [false, false, false, true, false, true, true, false, false] _ _ _ _ _ (kt h)) (fun h => hK.2 [true, true, true, true, false, true, true, true, false] _ _ _ _ _ (kf h)))
set_option maxRecDepth 4000 in
theorem B_X11_worst_62 {Q : oQ} {K : oK} (hK : oCl tb_X11_worst Q K) {sh : oS} (hs : Sh sh) {I : Nat → Nat → Int} {L : Nat → Nat → Int64} {x1 : Int} {x2 : Int} {x3 : Int} {x5 : Int} {x6 : Int} {x7 : Int} (k : T_X11_solved [vR 0, vI x1, vI x2, vI x7] (sh, I, L) (fun r mm => K 74 [some (vR 0), some (vI x1), some (vI x2), some (vI x3), none, some (vI x5), some (vI x6), some (vI x7), none] (r.toList ++ [vR 41]) mm (0, 0))) : K 62 [some (vR 0), some (vI x1), some (vI x2), some (vI x3), none, some (vI x5), some (vI x6), some (vI x7), none] [] (sh, I, L) (0, 0) := by
  refine hK.1 62 [some (vR 0), some (vI x1), some (vI x2), some (vI x3), none, some (vI x5), some (vI x6), some (vI x7), none] [] (sh, I, L) (0, 0) ?_
  refine hK.1 63 [some (vR 0), some (vI x1), some (vI x2), some (vI x3), none, some (vI x5), some (vI x6), some (vI x7), none] [vR 0] (sh, I, L) (0, 0) ?_
  refine And.intro (mem1 (sk_0 hs)) (Exists.intro 41 (And.intro (sr_0_15 hs) ?_))
  refine hK.1 66 [some (vR 0), some (vI x1), some (vI x2), some (vI x3), none, some (vI x5), some (vI x6), some (vI x7), none] [vR 41] (sh, I, L) (0, 0) ?_
  refine hK.1 67 [some (vR 0), some (vI x1), some (vI x2), some (vI x3), none, some (vI x5), some (vI x6), some (vI x7), none] [vR 0, vR 41] (sh, I, L) (0, 0) ?_
  refine hK.1 68 [some (vR 0), some (vI x1), some (vI x2), some (vI x3), none, some (vI x5), some (vI x6), some (vI x7), none] [vI x1, vR 0, vR 41] (sh, I, L) (0, 0) ?_
  refine hK.1 69 [some (vR 0), some (vI x1), some (vI x2), some (vI x3), none, some (vI x5), some (vI x6), some (vI x7), none] [vI x2, vI x1, vR 0, vR 41] (sh, I, L) (0, 0) ?_
  refine hK.1 71 [some (vR 0), some (vI x1), some (vI x2), some (vI x3), none, some (vI x5), some (vI x6), some (vI x7), none] [vI x7, vI x2, vI x1, vR 0, vR 41] (sh, I, L) (0, 0) ?_
  exact And.intro ⟨(sk_0 hs), Nat.le_of_ble_eq_true rfl, Nat.le_of_ble_eq_true rfl, Nat.le_of_ble_eq_true rfl, Nat.le_of_ble_eq_true rfl⟩ k
set_option maxRecDepth 4000 in
theorem B_X11_worst_74 {Q : oQ} {K : oK} (hK : oCl tb_X11_worst Q K) {sh : oS} (hs : Sh sh) {I : Nat → Nat → Int} {L : Nat → Nat → Int64} {x1 : Int} {x2 : Int} {x3 : Int} {x5 : Int} {x6 : Int} {x7 : Int} {s1 : Int} (b74 : 0 ≤ s1 ∧ s1 < 128) (n81a : inR (I 41 (s1.toNat))) (n81b : inR x6) (kt : I 41 (s1.toNat) ≤ x6 → K 92 [some (vR 0), some (vI x1), some (vI x2), some (vI x3), none, some (vI x5), some (vI x6), some (vI x7), none] [] (sh, I, L) (0, 0)) (kf : ¬ (I 41 (s1.toNat) ≤ x6) → K 84 [some (vR 0), some (vI x1), some (vI x2), some (vI x3), none, none, none, some (vI x7), some (vI (I 41 (s1.toNat)))] [] (sh, I, L) (0, 0)) : K 74 [some (vR 0), some (vI x1), some (vI x2), some (vI x3), none, some (vI x5), some (vI x6), some (vI x7), none] [vI s1, vR 41] (sh, I, L) (0, 0) := by
  refine hK.1 74 [some (vR 0), some (vI x1), some (vI x2), some (vI x3), none, some (vI x5), some (vI x6), some (vI x7), none] [vI s1, vR 41] (sh, I, L) (0, 0) ?_
  refine And.intro (And.intro (sk_41 hs) (ixL (sl_41 hs) b74)) ?_
  refine hK.1 75 [some (vR 0), some (vI x1), some (vI x2), some (vI x3), none, some (vI x5), some (vI x6), some (vI x7), none] [vI (I 41 (s1.toNat))] (sh, I, L) (0, 0) ?_
  refine hK.1 77 [some (vR 0), some (vI x1), some (vI x2), some (vI x3), none, some (vI x5), some (vI x6), some (vI x7), some (vI (I 41 (s1.toNat)))] [] (sh, I, L) (0, 0) ?_
  refine hK.1 79 [some (vR 0), some (vI x1), some (vI x2), some (vI x3), none, some (vI x5), some (vI x6), some (vI x7), some (vI (I 41 (s1.toNat)))] [vI (I 41 (s1.toNat))] (sh, I, L) (0, 0) ?_
  refine hK.1 81 [some (vR 0), some (vI x1), some (vI x2), some (vI x3), none, some (vI x5), some (vI x6), some (vI x7), some (vI (I 41 (s1.toNat)))] [vI x6, vI (I 41 (s1.toNat))] (sh, I, L) (0, 0) ?_
  exact And.intro (And.intro n81a n81b) (And.intro (fun h => hK.2 [true, true, true, true, false, true, true, true, false] _ _ _ _ _ (kt h)) (fun h => hK.2 [true, true, true, true, false, false, false, true, true] _ _ _ _ _ (kf h)))
set_option maxRecDepth 4000 in
theorem B_X11_worst_84 {Q : oQ} {K : oK} (hK : oCl tb_X11_worst Q K) {sh : oS} {I : Nat → Nat → Int} {L : Nat → Nat → Int64} {x1 : Int} {x2 : Int} {x3 : Int} {x7 : Int} {x8 : Int} (k : K 92 [some (vR 0), some (vI x1), some (vI x2), some (vI x3), none, some (vI x7), some (vI x8), some (vI x7), none] [] (sh, I, L) (0, 0)) : K 84 [some (vR 0), some (vI x1), some (vI x2), some (vI x3), none, none, none, some (vI x7), some (vI x8)] [] (sh, I, L) (0, 0) := by
  refine hK.1 84 [some (vR 0), some (vI x1), some (vI x2), some (vI x3), none, none, none, some (vI x7), some (vI x8)] [] (sh, I, L) (0, 0) ?_
  refine hK.1 86 [some (vR 0), some (vI x1), some (vI x2), some (vI x3), none, none, none, some (vI x7), some (vI x8)] [vI x8] (sh, I, L) (0, 0) ?_
  refine hK.1 88 [some (vR 0), some (vI x1), some (vI x2), some (vI x3), none, none, some (vI x8), some (vI x7), some (vI x8)] [] (sh, I, L) (0, 0) ?_
  refine hK.1 90 [some (vR 0), some (vI x1), some (vI x2), some (vI x3), none, none, some (vI x8), some (vI x7), some (vI x8)] [vI x7] (sh, I, L) (0, 0) ?_
  refine hK.2 [true, true, true, true, false, true, true, true, false] _ _ _ _ _ ?_
  exact k
set_option maxRecDepth 4000 in
theorem B_X11_worst_92 {Q : oQ} {K : oK} (hK : oCl tb_X11_worst Q K) {sh : oS} {I : Nat → Nat → Int} {L : Nat → Nat → Int64} {x1 : Int} {x2 : Int} {x3 : Int} {x5 : Int} {x6 : Int} {x7 : Int} (k : K 48 [some (vR 0), some (vI x1), some (vI x2), some (vI x3), none, some (vI x5), some (vI x6), some (vI (x7 + 1)), none] [] (sh, I, L) (0, 0)) : K 92 [some (vR 0), some (vI x1), some (vI x2), some (vI x3), none, some (vI x5), some (vI x6), some (vI x7), none] [] (sh, I, L) (0, 0) := by
  refine hK.1 92 [some (vR 0), some (vI x1), some (vI x2), some (vI x3), none, some (vI x5), some (vI x6), some (vI x7), none] [] (sh, I, L) (0, 0) ?_
  refine hK.1 95 [some (vR 0), some (vI x1), some (vI x2), some (vI x3), none, some (vI x5), some (vI x6), some (vI (x7 + 1)), none] [] (sh, I, L) (0, 0) ?_
  exact k
set_option maxRecDepth 4000 in
theorem B_X11_worst_98 {Q : oQ} {K : oK} (hK : oCl tb_X11_worst Q K) {sh : oS} {I : Nat → Nat → Int} {L : Nat → Nat → Int64} {x3 : Int} {x5 : Int} {x6 : Int} (n99 : inR x3) (kt : ¬ x3 = 0 → K 107 [none, none, none, none, none, none, some (vI x6), none, none] [] (sh, I, L) (0, 0)) (kf : ¬ (¬ x3 = 0) → K 102 [none, none, none, none, none, some (vI x5), none, none, none] [] (sh, I, L) (0, 0)) : K 98 [none, none, none, some (vI x3), none, some (vI x5), some (vI x6), none, none] [] (sh, I, L) (0, 0) := by
  refine hK.1 98 [none, none, none, some (vI x3), none, some (vI x5), some (vI x6), none, none] [] (sh, I, L) (0, 0) ?_
  refine hK.1 99 [none, none, none, some (vI x3), none, some (vI x5), some (vI x6), none, none] [vI x3] (sh, I, L) (0, 0) ?_
  exact And.intro (n99) (And.intro (fun h => hK.2 [false, false, false, false, false, false, true, false, false] _ _ _ _ _ (kt h)) (fun h => hK.2 [false, false, false, false, false, true, false, false, false] _ _ _ _ _ (kf h)))
set_option maxRecDepth 4000 in
theorem B_X11_worst_102 {Q : oQ} {K : oK} (hK : oCl tb_X11_worst Q K) {sh : oS} {I : Nat → Nat → Int} {L : Nat → Nat → Int64} {x5 : Int} (k : K 109 [none, none, none, none, none, none, none, none, none] [vI x5] (sh, I, L) (0, 0)) : K 102 [none, none, none, none, none, some (vI x5), none, none, none] [] (sh, I, L) (0, 0) := by
  refine hK.1 102 [none, none, none, none, none, some (vI x5), none, none, none] [] (sh, I, L) (0, 0) ?_
  refine hK.1 104 [none, none, none, none, none, some (vI x5), none, none, none] [vI x5] (sh, I, L) (0, 0) ?_
  refine hK.2 [false, false, false, false, false, false, false, false, false] _ _ _ _ _ ?_
  exact k
set_option maxRecDepth 4000 in
theorem B_X11_worst_107 {Q : oQ} {K : oK} (hK : oCl tb_X11_worst Q K) {sh : oS} {I : Nat → Nat → Int} {L : Nat → Nat → Int64} {x6 : Int} (k : K 109 [none, none, none, none, none, none, none, none, none] [vI x6] (sh, I, L) (0, 0)) : K 107 [none, none, none, none, none, none, some (vI x6), none, none] [] (sh, I, L) (0, 0) := by
  refine hK.1 107 [none, none, none, none, none, none, some (vI x6), none, none] [] (sh, I, L) (0, 0) ?_
  refine hK.2 [false, false, false, false, false, false, false, false, false] _ _ _ _ _ ?_
  exact k
set_option maxRecDepth 4000 in
theorem B_X11_worst_109 {Q : oQ} {K : oK} (hK : oCl tb_X11_worst Q K) {sh : oS} {I : Nat → Nat → Int} {L : Nat → Nat → Int64} {s0 : Int} (k : Q (some (vI s0)) (sh, I, L)) : K 109 [none, none, none, none, none, none, none, none, none] [vI s0] (sh, I, L) (0, 0) := by
  refine hK.1 109 [none, none, none, none, none, none, none, none, none] [vI s0] (sh, I, L) (0, 0) ?_
  exact And.intro ⟨by decide, by decide⟩ k
