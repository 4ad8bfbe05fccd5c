set_option maxRecDepth 4000 in
theorem B_J7_fill_53178_0 {Q : oQ} {K : oK} (hK : oCl tb_J7_fill_53178 Q K) {sh : oS} {I : Nat → Nat → Int} {L : Nat → Nat → Int64} {h0 : Nat} {x1 : Int} (kh0 : sK sh h0 = 13) (k : K 5 [some (vR h0), some (vI x1), some (vI 0), some (vI (sL sh h0 : Int))] [] (sh, I, L) (0, 0)) : K 0 [some (vR h0), some (vI x1), none, none] [] (sh, I, L) (0, 0) := by
  refine hK.1 0 [some (vR h0), some (vI x1), none, none] [] (sh, I, L) (0, 0) ?_
  refine hK.1 1 [some (vR h0), some (vI x1), none, none] [vI 0] (sh, I, L) (0, 0) ?_
  refine hK.1 2 [some (vR h0), some (vI x1), some (vI 0), none] [] (sh, I, L) (0, 0) ?_
  refine hK.1 3 [some (vR h0), some (vI x1), some (vI 0), none] [vR h0] (sh, I, L) (0, 0) ?_
  refine And.intro (by rw [show sK sh h0 = 13 from kh0]; exact ⟨by decide, by decide⟩) ?_
  refine hK.1 4 [some (vR h0), some (vI x1), some (vI 0), none] [vI (sL sh h0 : Int)] (sh, I, L) (0, 0) ?_
  exact k
set_option maxRecDepth 4000 in
theorem B_J7_fill_53178_5 {Q : oQ} {K : oK} (hK : oCl tb_J7_fill_53178 Q K) {sh : oS} {I : Nat → Nat → Int} {L : Nat → Nat → Int64} {h0 : Nat} {x1 : Int} {x2 : Int} {x3 : Int} (n7a : inR x2) (n7b : inR x3) (kt : x3 ≤ x2 → K 20 [none, none, none, none] [] (sh, I, L) (0, 0)) (kf : ¬ (x3 ≤ x2) → K 10 [some (vR h0), some (vI x1), some (vI x2), some (vI x3)] [] (sh, I, L) (0, 0)) : K 5 [some (vR h0), some (vI x1), some (vI x2), some (vI x3)] [] (sh, I, L) (0, 0) := by
  refine hK.1 5 [some (vR h0), some (vI x1), some (vI x2), some (vI x3)] [] (sh, I, L) (0, 0) ?_
  refine hK.1 6 [some (vR h0), some (vI x1), some (vI x2), some (vI x3)] [vI x2] (sh, I, L) (0, 0) ?_
  refine hK.1 7 [some (vR h0), some (vI x1), some (vI x2), some (vI x3)] [vI x3, vI x2] (sh, I, L) (0, 0) ?_
  exact And.intro (And.intro n7a n7b) (And.intro (fun h => hK.2 [false, false, false, false] _ _ _ _ _ (kt h)) (fun h => hK.2 [true, true, true, true] _ _ _ _ _ (kf h)))
set_option maxRecDepth 4000 in
theorem B_J7_fill_53178_10 {Q : oQ} {K : oK} (hK : oCl tb_J7_fill_53178 Q K) {sh : oS} {I : Nat → Nat → Int} {L : Nat → Nat → Int64} {h0 : Nat} {x1 : Int} {x2 : Int} {x3 : Int} (kh0 : sK sh h0 = 13) (b13 : 0 ≤ x2 ∧ x2 < (sL sh h0 : Int)) (k : K 5 [some (vR h0), some (vI x1), some (vI (x2 + 1)), some (vI x3)] [] (sh, (u2 I h0 (x2.toNat) x1), L) (0, 0)) : K 10 [some (vR h0), some (vI x1), some (vI x2), some (vI x3)] [] (sh, I, L) (0, 0) := by
  refine hK.1 10 [some (vR h0), some (vI x1), some (vI x2), some (vI x3)] [] (sh, I, L) (0, 0) ?_
  refine hK.1 11 [some (vR h0), some (vI x1), some (vI x2), some (vI x3)] [vR h0] (sh, I, L) (0, 0) ?_
  refine hK.1 12 [some (vR h0), some (vI x1), some (vI x2), some (vI x3)] [vI x2, vR h0] (sh, I, L) (0, 0) ?_
  refine hK.1 13 [some (vR h0), some (vI x1), some (vI x2), some (vI x3)] [vI x1, vI x2, vR h0] (sh, I, L) (0, 0) ?_
  refine And.intro (And.intro (kh0) b13) ?_
  refine hK.1 14 [some (vR h0), some (vI x1), some (vI x2), some (vI x3)] [] (sh, (u2 I h0 (x2.toNat) x1), L) (0, 0) ?_
  refine hK.1 17 [some (vR h0), some (vI x1), some (vI (x2 + 1)), some (vI x3)] [] (sh, (u2 I h0 (x2.toNat) x1), L) (0, 0) ?_
  exact k
set_option maxRecDepth 4000 in
theorem B_J7_fill_53178_20 {Q : oQ} {K : oK} (hK : oCl tb_J7_fill_53178 Q K) {sh : oS} {I : Nat → Nat → Int} {L : Nat → Nat → Int64}  (k : Q none (sh, I, L)) : K 20 [none, none, none, none] [] (sh, I, L) (0, 0) := by
  refine hK.1 20 [none, none, none, none] [] (sh, I, L) (0, 0) ?_
  exact And.intro rfl (And.intro ⟨by decide, by decide⟩ k)
set_option maxRecDepth 4000 in
theorem B_X0_init_0 {Q : oQ} {K : oK} (hK : oCl tb_X0_init Q K) {sh : oS} {I : Nat → Nat → Int} {L : Nat → Nat → Int64} {h0 : Nat} {x1 : Int} {x2 : Int} (kh0_0 : sK sh h0 ∈ [0, 1, 3, 5, 10]) (k : K 9 [some (vR h0), none, some (vI x2)] [] (sh, (u2 I h0 0 x1), L) (0, 0)) : K 0 [some (vR h0), some (vI x1), some (vI x2)] [] (sh, I, L) (0, 0) := by
  refine hK.1 0 [some (vR h0), some (vI x1), some (vI x2)] [] (sh, I, L) (0, 0) ?_
  refine hK.1 1 [some (vR h0), some (vI x1), some (vI x2)] [vR h0] (sh, I, L) (0, 0) ?_
  refine And.intro (Nat.le_of_ble_eq_true rfl) ?_
  refine hK.1 4 [some (vR h0), some (vI x1), some (vI x2)] [] (sh, I, L) (0, 0) ?_
  refine hK.1 5 [some (vR h0), some (vI x1), some (vI x2)] [vR h0] (sh, I, L) (0, 0) ?_
  refine hK.1 6 [some (vR h0), some (vI x1), some (vI x2)] [vI x1, vR h0] (sh, I, L) (0, 0) ?_
  refine And.intro (kh0_0) ?_
  refine hK.2 [true, false, true] _ _ _ _ _ ?_
  exact k
set_option maxRecDepth 4000 in
theorem B_X0_init_9 {Q : oQ} {K : oK} (hK : oCl tb_X0_init Q K) {sh : oS} {I : Nat → Nat → Int} {L : Nat → Nat → Int64} {h0 : Nat} {x2 : Int} (kh0_0 : sK sh h0 ∈ [0, 1, 3, 5, 10]) (k : K 14 [none, none, none] [] (sh, (u2 I h0 1 x2), L) (0, 0)) : K 9 [some (vR h0), none, some (vI x2)] [] (sh, I, L) (0, 0) := by
  refine hK.1 9 [some (vR h0), none, some (vI x2)] [] (sh, I, L) (0, 0) ?_
  refine hK.1 10 [some (vR h0), none, some (vI x2)] [vR h0] (sh, I, L) (0, 0) ?_
  refine hK.1 11 [some (vR h0), none, some (vI x2)] [vI x2, vR h0] (sh, I, L) (0, 0) ?_
  refine And.intro (kh0_0) ?_
  refine hK.2 [false, false, false] _ _ _ _ _ ?_
  exact k
set_option maxRecDepth 4000 in
theorem B_X0_init_14 {Q : oQ} {K : oK} (hK : oCl tb_X0_init Q K) {sh : oS} {I : Nat → Nat → Int} {L : Nat → Nat → Int64}  (k : Q none (sh, I, L)) : K 14 [none, none, none] [] (sh, I, L) (0, 0) := by
  refine hK.1 14 [none, none, none] [] (sh, I, L) (0, 0) ?_
  exact And.intro rfl (And.intro ⟨by decide, by decide⟩ k)
set_option maxRecDepth 4000 in
theorem B_X0_kind_0 {Q : oQ} {K : oK} (hK : oCl tb_X0_kind Q K) {sh : oS} {I : Nat → Nat → Int} {L : Nat → Nat → Int64} {h0 : Nat} (k : Q (some (vI 0)) (sh, I, L)) : K 0 [some (vR h0)] [] (sh, I, L) (0, 0) := by
  refine hK.1 0 [some (vR h0)] [] (sh, I, L) (0, 0) ?_
  refine hK.1 1 [some (vR h0)] [vI 0] (sh, I, L) (0, 0) ?_
  exact And.intro ⟨by decide, by decide⟩ k
set_option maxRecDepth 4000 in
theorem B_X4_has_0 {Q : oQ} {K : oK} (hK : oCl tb_X4_has Q K) {sh : oS} {I : Nat → Nat → Int} {L : Nat → Nat → Int64} {h0 : Nat} {x1 : Int} (n1 : inR x1) (kt : x1 < 0 → K 16 [none, none] [] (sh, I, L) (0, 0)) (kf : ¬ (x1 < 0) → K 4 [some (vR h0), some (vI x1)] [] (sh, I, L) (0, 0)) : K 0 [some (vR h0), some (vI x1)] [] (sh, I, L) (0, 0) := by
  refine hK.1 0 [some (vR h0), some (vI x1)] [] (sh, I, L) (0, 0) ?_
  refine hK.1 1 [some (vR h0), some (vI x1)] [vI x1] (sh, I, L) (0, 0) ?_
  exact And.intro (n1) (And.intro (fun h => hK.2 [false, false] _ _ _ _ _ (kt h)) (fun h => hK.2 [true, true] _ _ _ _ _ (kf h)))
set_option maxRecDepth 4000 in
theorem B_X4_has_4 {Q : oQ} {K : oK} (hK : oCl tb_X4_has Q K) {sh : oS} {I : Nat → Nat → Int} {L : Nat → Nat → Int64} {h0 : Nat} {x1 : Int} {h0f h0w : Nat} (Ah0 : LandAt sh h0 h0f h0w) (n9a : inR x1) (n9b : inR (I h0 0)) (kt : I h0 0 ≤ x1 → K 16 [none, none] [] (sh, I, L) (0, 0)) (kf : ¬ (I h0 0 ≤ x1) → K 12 [none, none] [] (sh, I, L) (0, 0)) : K 4 [some (vR h0), some (vI x1)] [] (sh, I, L) (0, 0) := by
  refine hK.1 4 [some (vR h0), some (vI x1)] [] (sh, I, L) (0, 0) ?_
  refine hK.1 5 [some (vR h0), some (vI x1)] [vI x1] (sh, I, L) (0, 0) ?_
  refine hK.1 6 [some (vR h0), some (vI x1)] [vR h0, vI x1] (sh, I, L) (0, 0) ?_
  refine And.intro (mem1 Ah0.1) ?_
  refine hK.1 9 [some (vR h0), some (vI x1)] [vI (I h0 0), vI x1] (sh, I, L) (0, 0) ?_
  exact And.intro (And.intro n9a n9b) (And.intro (fun h => hK.2 [false, false] _ _ _ _ _ (kt h)) (fun h => hK.2 [false, false] _ _ _ _ _ (kf h)))
set_option maxRecDepth 4000 in
theorem B_X4_has_12 {Q : oQ} {K : oK} (hK : oCl tb_X4_has Q K) {sh : oS} {I : Nat → Nat → Int} {L : Nat → Nat → Int64}  (k : K 17 [none, none] [vI 1] (sh, I, L) (0, 0)) : K 12 [none, none] [] (sh, I, L) (0, 0) := by
  refine hK.1 12 [none, none] [] (sh, I, L) (0, 0) ?_
  refine hK.1 13 [none, none] [vI 1] (sh, I, L) (0, 0) ?_
  exact k
set_option maxRecDepth 4000 in
theorem B_X4_has_16 {Q : oQ} {K : oK} (hK : oCl tb_X4_has Q K) {sh : oS} {I : Nat → Nat → Int} {L : Nat → Nat → Int64}  (k : K 17 [none, none] [vI 0] (sh, I, L) (0, 0)) : K 16 [none, none] [] (sh, I, L) (0, 0) := by
  refine hK.1 16 [none, none] [] (sh, I, L) (0, 0) ?_
  exact k
set_option maxRecDepth 4000 in
theorem B_X4_has_17 {Q : oQ} {K : oK} (hK : oCl tb_X4_has Q K) {sh : oS} {I : Nat → Nat → Int} {L : Nat → Nat → Int64} {s0 : Int} (o17 : s0 = 0 ∨ s0 = 1) (k : Q (some (vI s0)) (sh, I, L)) : K 17 [none, none] [vI s0] (sh, I, L) (0, 0) := by
  refine hK.1 17 [none, none] [vI s0] (sh, I, L) (0, 0) ?_
  exact And.intro ⟨o17, by decide, by decide⟩ k
set_option maxRecDepth 4000 in
theorem B_X9_isBehind_0 {Q : oQ} {K : oK} (hK : oCl tb_X9_isBehind Q K) {sh : oS} (hs : Sh sh) {I : Nat → Nat → Int} {L : Nat → Nat → Int64} {x1 : Int} {x2 : Int} {x3 : Int} {x4 : Int} (b5 : 0 ≤ x1 ∧ x1 < 30) (n7a : inR (I 27 (x1.toNat))) (n7b : inR x3) (kt : I 27 (x1.toNat) = x3 → K 26 [some (vR 25), some (vI x1), some (vI x2), none, some (vI x4)] [] (sh, I, L) (0, 0)) (kf : ¬ (I 27 (x1.toNat) = x3) → K 10 [some (vR 25), some (vI x1), none, some (vI x3), none] [] (sh, I, L) (0, 0)) : K 0 [some (vR 25), some (vI x1), some (vI x2), some (vI x3), some (vI x4)] [] (sh, I, L) (0, 0) := by
  refine hK.1 0 [some (vR 25), some (vI x1), some (vI x2), some (vI x3), some (vI x4)] [] (sh, I, L) (0, 0) ?_
  refine hK.1 1 [some (vR 25), some (vI x1), some (vI x2), some (vI x3), some (vI x4)] [vR 25] (sh, I, L) (0, 0) ?_
  refine And.intro (mem1 (sk_25 hs)) (Exists.intro 27 (And.intro (sr_25_1 hs) ?_))
  refine hK.1 4 [some (vR 25), some (vI x1), some (vI x2), some (vI x3), some (vI x4)] [vR 27] (sh, I, L) (0, 0) ?_
  refine hK.1 5 [some (vR 25), some (vI x1), some (vI x2), some (vI x3), some (vI x4)] [vI x1, vR 27] (sh, I, L) (0, 0) ?_
  refine And.intro (And.intro (sk_27 hs) (ixL (sl_27 hs) b5)) ?_
  refine hK.1 6 [some (vR 25), some (vI x1), some (vI x2), some (vI x3), some (vI x4)] [vI (I 27 (x1.toNat))] (sh, I, L) (0, 0) ?_
  refine hK.1 7 [some (vR 25), some (vI x1), some (vI x2), some (vI x3), some (vI x4)] [vI x3, vI (I 27 (x1.toNat))] (sh, I, L) (0, 0) ?_
  exact And.intro (And.intro n7a n7b) (And.intro (fun h => hK.2 [true, true, true, false, true] _ _ _ _ _ (kt h)) (fun h => hK.2 [true, true, false, true, false] _ _ _ _ _ (kf h)))
set_option maxRecDepth 4000 in
theorem B_X9_isBehind_10 {Q : oQ} {K : oK} (hK : oCl tb_X9_isBehind Q K) {sh : oS} (hs : Sh sh) {I : Nat → Nat → Int} {L : Nat → Nat → Int64} {x1 : Int} {x3 : Int} (b15 : 0 ≤ x1 ∧ x1 < 30) (n17a : inR (I 27 (x1.toNat))) (n17b : inR x3) (kt : I 27 (x1.toNat) ≤ x3 → K 24 [none, none, none, none, none] [] (sh, I, L) (0, 0)) (kf : ¬ (I 27 (x1.toNat) ≤ x3) → K 20 [none, none, none, none, none] [] (sh, I, L) (0, 0)) : K 10 [some (vR 25), some (vI x1), none, some (vI x3), none] [] (sh, I, L) (0, 0) := by
  refine hK.1 10 [some (vR 25), some (vI x1), none, some (vI x3), none] [] (sh, I, L) (0, 0) ?_
  refine hK.1 11 [some (vR 25), some (vI x1), none, some (vI x3), none] [vR 25] (sh, I, L) (0, 0) ?_
  refine And.intro (mem1 (sk_25 hs)) (Exists.intro 27 (And.intro (sr_25_1 hs) ?_))
  refine hK.1 14 [some (vR 25), some (vI x1), none, some (vI x3), none] [vR 27] (sh, I, L) (0, 0) ?_
  refine hK.1 15 [some (vR 25), some (vI x1), none, some (vI x3), none] [vI x1, vR 27] (sh, I, L) (0, 0) ?_
  refine And.intro (And.intro (sk_27 hs) (ixL (sl_27 hs) b15)) ?_
  refine hK.1 16 [some (vR 25), some (vI x1), none, some (vI x3), none] [vI (I 27 (x1.toNat))] (sh, I, L) (0, 0) ?_
  refine hK.1 17 [some (vR 25), some (vI x1), none, some (vI x3), none] [vI x3, vI (I 27 (x1.toNat))] (sh, I, L) (0, 0) ?_
  exact And.intro (And.intro n17a n17b) (And.intro (fun h => hK.2 [false, false, false, false, false] _ _ _ _ _ (kt h)) (fun h => hK.2 [false, false, false, false, false] _ _ _ _ _ (kf h)))
set_option maxRecDepth 4000 in
theorem B_X9_isBehind_20 {Q : oQ} {K : oK} (hK : oCl tb_X9_isBehind Q K) {sh : oS} {I : Nat → Nat → Int} {L : Nat → Nat → Int64}  (k : K 25 [none, none, none, none, none] [vI 1] (sh, I, L) (0, 0)) : K 20 [none, none, none, none, none] [] (sh, I, L) (0, 0) := by
  refine hK.1 20 [none, none, none, none, none] [] (sh, I, L) (0, 0) ?_
  refine hK.1 21 [none, none, none, none, none] [vI 1] (sh, I, L) (0, 0) ?_
  exact k
set_option maxRecDepth 4000 in
theorem B_X9_isBehind_24 {Q : oQ} {K : oK} (hK : oCl tb_X9_isBehind Q K) {sh : oS} {I : Nat → Nat → Int} {L : Nat → Nat → Int64}  (k : K 25 [none, none, none, none, none] [vI 0] (sh, I, L) (0, 0)) : K 24 [none, none, none, none, none] [] (sh, I, L) (0, 0) := by
  refine hK.1 24 [none, none, none, none, none] [] (sh, I, L) (0, 0) ?_
  exact k
set_option maxRecDepth 4000 in
theorem B_X9_isBehind_25 {Q : oQ} {K : oK} (hK : oCl tb_X9_isBehind Q K) {sh : oS} {I : Nat → Nat → Int} {L : Nat → Nat → Int64} {s0 : Int} (o25 : s0 = 0 ∨ s0 = 1) (k : Q (some (vI s0)) (sh, I, L)) : K 25 [none, none, none, none, none] [vI s0] (sh, I, L) (0, 0) := by
  refine hK.1 25 [none, none, none, none, none] [vI s0] (sh, I, L) (0, 0) ?_
  exact And.intro ⟨o25, by decide, by decide⟩ k
set_option maxRecDepth 4000 in
theorem B_X9_isBehind_26 {Q : oQ} {K : oK} (hK : oCl tb_X9_isBehind Q K) {sh : oS} (hs : Sh sh) {I : Nat → Nat → Int} {L : Nat → Nat → Int64} {x1 : Int} {x2 : Int} {x4 : Int} (b31 : 0 ≤ x1 ∧ x1 < 30) (n33a : inR (I 26 (x1.toNat))) (n33b : inR x2) (kt : I 26 (x1.toNat) = x2 → K 54 [some (vR 25), some (vI x1), none, none, some (vI x4)] [] (sh, I, L) (0, 0)) (kf : ¬ (I 26 (x1.toNat) = x2) → K 36 [some (vR 25), some (vI x1), some (vI x2), none, none] [] (sh, I, L) (0, 0)) : K 26 [some (vR 25), some (vI x1), some (vI x2), none, some (vI x4)] [] (sh, I, L) (0, 0) := by
  refine hK.1 26 [some (vR 25), some (vI x1), some (vI x2), none, some (vI x4)] [] (sh, I, L) (0, 0) ?_
  refine hK.1 27 [some (vR 25), some (vI x1), some (vI x2), none, some (vI x4)] [vR 25] (sh, I, L) (0, 0) ?_
  refine And.intro (mem1 (sk_25 hs)) (Exists.intro 26 (And.intro (sr_25_0 hs) ?_))
  refine hK.1 30 [some (vR 25), some (vI x1), some (vI x2), none, some (vI x4)] [vR 26] (sh, I, L) (0, 0) ?_
  refine hK.1 31 [some (vR 25), some (vI x1), some (vI x2), none, some (vI x4)] [vI x1, vR 26] (sh, I, L) (0, 0) ?_
  refine And.intro (And.intro (sk_26 hs) (ixL (sl_26 hs) b31)) ?_
  refine hK.1 32 [some (vR 25), some (vI x1), some (vI x2), none, some (vI x4)] [vI (I 26 (x1.toNat))] (sh, I, L) (0, 0) ?_
  refine hK.1 33 [some (vR 25), some (vI x1), some (vI x2), none, some (vI x4)] [vI x2, vI (I 26 (x1.toNat))] (sh, I, L) (0, 0) ?_
  exact And.intro (And.intro n33a n33b) (And.intro (fun h => hK.2 [true, true, false, false, true] _ _ _ _ _ (kt h)) (fun h => hK.2 [true, true, true, false, false] _ _ _ _ _ (kf h)))
set_option maxRecDepth 4000 in
theorem B_X9_isBehind_36 {Q : oQ} {K : oK} (hK : oCl tb_X9_isBehind Q K) {sh : oS} (hs : Sh sh) {I : Nat → Nat → Int} {L : Nat → Nat → Int64} {x1 : Int} {x2 : Int} (b41 : 0 ≤ x1 ∧ x1 < 30) (n43a : inR (I 26 (x1.toNat))) (n43b : inR x2) (kt : I 26 (x1.toNat) ≤ x2 → K 50 [none, none, none, none, none] [] (sh, I, L) (0, 0)) (kf : ¬ (I 26 (x1.toNat) ≤ x2) → K 46 [none, none, none, none, none] [] (sh, I, L) (0, 0)) : K 36 [some (vR 25), some (vI x1), some (vI x2), none, none] [] (sh, I, L) (0, 0) := by
  refine hK.1 36 [some (vR 25), some (vI x1), some (vI x2), none, none] [] (sh, I, L) (0, 0) ?_
  refine hK.1 37 [some (vR 25), some (vI x1), some (vI x2), none, none] [vR 25] (sh, I, L) (0, 0) ?_
  refine And.intro (mem1 (sk_25 hs)) (Exists.intro 26 (And.intro (sr_25_0 hs) ?_))
  refine hK.1 40 [some (vR 25), some (vI x1), some (vI x2), none, none] [vR 26] (sh, I, L) (0, 0) ?_
  refine hK.1 41 [some (vR 25), some (vI x1), some (vI x2), none, none] [vI x1, vR 26] (sh, I, L) (0, 0) ?_
  refine And.intro (And.intro (sk_26 hs) (ixL (sl_26 hs) b41)) ?_
  refine hK.1 42 [some (vR 25), some (vI x1), some (vI x2), none, none] [vI (I 26 (x1.toNat))] (sh, I, L) (0, 0) ?_
  refine hK.1 43 [some (vR 25), some (vI x1), some (vI x2), none, none] [vI x2, vI (I 26 (x1.toNat))] (sh, I, L) (0, 0) ?_
  exact And.intro (And.intro n43a n43b) (And.intro (fun h => hK.2 [false, false, false, false, false] _ _ _ _ _ (kt h)) (fun h => hK.2 [false, false, false, false, false] _ _ _ _ _ (kf h)))
set_option maxRecDepth 4000 in
theorem B_X9_isBehind_46 {Q : oQ} {K : oK} (hK : oCl tb_X9_isBehind Q K) {sh : oS} {I : Nat → Nat → Int} {L : Nat → Nat → Int64}  (k : K 70 [none, none, none, none, none] [vI 1] (sh, I, L) (0, 0)) : K 46 [none, none, none, none, none] [] (sh, I, L) (0, 0) := by
  refine hK.1 46 [none, none, none, none, none] [] (sh, I, L) (0, 0) ?_
  refine hK.1 47 [none, none, none, none, none] [vI 1] (sh, I, L) (0, 0) ?_
  exact k
set_option maxRecDepth 4000 in
theorem B_X9_isBehind_50 {Q : oQ} {K : oK} (hK : oCl tb_X9_isBehind Q K) {sh : oS} {I : Nat → Nat → Int} {L : Nat → Nat → Int64}  (k : K 70 [none, none, none, none, none] [vI 0] (sh, I, L) (0, 0)) : K 50 [none, none, none, none, none] [] (sh, I, L) (0, 0) := by
  refine hK.1 50 [none, none, none, none, none] [] (sh, I, L) (0, 0) ?_
  refine hK.1 51 [none, none, none, none, none] [vI 0] (sh, I, L) (0, 0) ?_
  exact k
set_option maxRecDepth 4000 in
theorem B_X9_isBehind_54 {Q : oQ} {K : oK} (hK : oCl tb_X9_isBehind Q K) {sh : oS} (hs : Sh sh) {I : Nat → Nat → Int} {L : Nat → Nat → Int64} {x1 : Int} {x4 : Int} (b59 : 0 ≤ x1 ∧ x1 < 30) (n62a : inR (I 28 (x1.toNat))) (n62b : inR x4) (kt : I 28 (x1.toNat) ≤ x4 → K 69 [none, none, none, none, none] [] (sh, I, L) (0, 0)) (kf : ¬ (I 28 (x1.toNat) ≤ x4) → K 65 [none, none, none, none, none] [] (sh, I, L) (0, 0)) : K 54 [some (vR 25), some (vI x1), none, none, some (vI x4)] [] (sh, I, L) (0, 0) := by
  refine hK.1 54 [some (vR 25), some (vI x1), none, none, some (vI x4)] [] (sh, I, L) (0, 0) ?_
  refine hK.1 55 [some (vR 25), some (vI x1), none, none, some (vI x4)] [vR 25] (sh, I, L) (0, 0) ?_
  refine And.intro (mem1 (sk_25 hs)) (Exists.intro 28 (And.intro (sr_25_2 hs) ?_))
  refine hK.1 58 [some (vR 25), some (vI x1), none, none, some (vI x4)] [vR 28] (sh, I, L) (0, 0) ?_
  refine hK.1 59 [some (vR 25), some (vI x1), none, none, some (vI x4)] [vI x1, vR 28] (sh, I, L) (0, 0) ?_
  refine And.intro (And.intro (sk_28 hs) (ixL (sl_28 hs) b59)) ?_
  refine hK.1 60 [some (vR 25), some (vI x1), none, none, some (vI x4)] [vI (I 28 (x1.toNat))] (sh, I, L) (0, 0) ?_
  refine hK.1 62 [some (vR 25), some (vI x1), none, none, some (vI x4)] [vI x4, vI (I 28 (x1.toNat))] (sh, I, L) (0, 0) ?_
  exact And.intro (And.intro n62a n62b) (And.intro (fun h => hK.2 [false, false, false, false, false] _ _ _ _ _ (kt h)) (fun h => hK.2 [false, false, false, false, false] _ _ _ _ _ (kf h)))
set_option maxRecDepth 4000 in
theorem B_X9_isBehind_65 {Q : oQ} {K : oK} (hK : oCl tb_X9_isBehind Q K) {sh : oS} {I : Nat → Nat → Int} {L : Nat → Nat → Int64}  (k : K 70 [none, none, none, none, none] [vI 1] (sh, I, L) (0, 0)) : K 65 [none, none, none, none, none] [] (sh, I, L) (0, 0) := by
  refine hK.1 65 [none, none, none, none, none] [] (sh, I, L) (0, 0) ?_
  refine hK.1 66 [none, none, none, none, none] [vI 1] (sh, I, L) (0, 0) ?_
  exact k
set_option maxRecDepth 4000 in
theorem B_X9_isBehind_69 {Q : oQ} {K : oK} (hK : oCl tb_X9_isBehind Q K) {sh : oS} {I : Nat → Nat → Int} {L : Nat → Nat → Int64}  (k : K 70 [none, none, none, none, none] [vI 0] (sh, I, L) (0, 0)) : K 69 [none, none, none, none, none] [] (sh, I, L) (0, 0) := by
  refine hK.1 69 [none, none, none, none, none] [] (sh, I, L) (0, 0) ?_
  exact k
set_option maxRecDepth 4000 in
theorem B_X9_isBehind_70 {Q : oQ} {K : oK} (hK : oCl tb_X9_isBehind Q K) {sh : oS} {I : Nat → Nat → Int} {L : Nat → Nat → Int64} {s0 : Int} (o70 : s0 = 0 ∨ s0 = 1) (k : Q (some (vI s0)) (sh, I, L)) : K 70 [none, none, none, none, none] [vI s0] (sh, I, L) (0, 0) := by
  refine hK.1 70 [none, none, none, none, none] [vI s0] (sh, I, L) (0, 0) ?_
  exact And.intro ⟨o70, by decide, by decide⟩ k
set_option maxRecDepth 4000 in
theorem B_X9_add_0 {Q : oQ} {K : oK} (hK : oCl tb_X9_add Q K) {sh : oS} {I : Nat → Nat → Int} {L : Nat → Nat → Int64} {h1 : Nat} {h2 : Nat} {x3 : Int} {x4 : Int} {x5 : Int} {h2e h2p h2t : Nat} {h1f h1w : Nat} (Ah2 : MarchAt sh h2 h2e h2p h2t) (n8a : inR x5) (n8b : inR ((I h2 0) - 1)) (k : T_X4_has [vR h1, vI x3] (sh, I, L) (fun r mm => K 18 [some (vR 25), some (vR h1), none, some (vI x3), some (vI x4), none, some (vI (fMin x5 ((I h2 0) - 1))), none] (r.toList ++ []) mm (0, 0))) (Ah1 : LandAt sh h1 h1f h1w) : K 0 [some (vR 25), some (vR h1), some (vR h2), some (vI x3), some (vI x4), some (vI x5), none, none] [] (sh, I, L) (0, 0) := by
  refine hK.1 0 [some (vR 25), some (vR h1), some (vR h2), some (vI x3), some (vI x4), some (vI x5), none, none] [] (sh, I, L) (0, 0) ?_
  refine hK.1 2 [some (vR 25), some (vR h1), some (vR h2), some (vI x3), some (vI x4), some (vI x5), none, none] [vI x5] (sh, I, L) (0, 0) ?_
  refine hK.1 3 [some (vR 25), some (vR h1), some (vR h2), some (vI x3), some (vI x4), some (vI x5), none, none] [vR h2, vI x5] (sh, I, L) (0, 0) ?_
  refine And.intro (mem1 Ah2.1) ?_
  refine hK.1 6 [some (vR 25), some (vR h1), some (vR h2), some (vI x3), some (vI x4), some (vI x5), none, none] [vI (I h2 0), vI x5] (sh, I, L) (0, 0) ?_
  refine hK.1 7 [some (vR 25), some (vR h1), some (vR h2), some (vI x3), some (vI x4), some (vI x5), none, none] [vI 1, vI (I h2 0), vI x5] (sh, I, L) (0, 0) ?_
  refine hK.1 8 [some (vR 25), some (vR h1), some (vR h2), some (vI x3), some (vI x4), some (vI x5), none, none] [vI ((I h2 0) - 1), vI x5] (sh, I, L) (0, 0) ?_
  refine And.intro ⟨n8a, n8b, Nat.le_of_ble_eq_true rfl, Nat.le_of_ble_eq_true rfl, Nat.le_of_ble_eq_true rfl⟩ ?_
  refine hK.1 11 [some (vR 25), some (vR h1), some (vR h2), some (vI x3), some (vI x4), some (vI x5), none, none] [vI (fMin x5 ((I h2 0) - 1))] (sh, I, L) (0, 0) ?_
  refine hK.1 13 [some (vR 25), some (vR h1), some (vR h2), some (vI x3), some (vI x4), some (vI x5), some (vI (fMin x5 ((I h2 0) - 1))), none] [] (sh, I, L) (0, 0) ?_
  refine hK.1 14 [some (vR 25), some (vR h1), some (vR h2), some (vI x3), some (vI x4), some (vI x5), some (vI (fMin x5 ((I h2 0) - 1))), none] [vR h1] (sh, I, L) (0, 0) ?_
  refine hK.2 [true, true, false, true, true, false, true, false] _ _ _ _ _ ?_
  refine hK.1 15 [some (vR 25), some (vR h1), none, some (vI x3), some (vI x4), none, some (vI (fMin x5 ((I h2 0) - 1))), none] [vI x3, vR h1] (sh, I, L) (0, 0) ?_
  exact And.intro ⟨Ah1.1, Nat.le_of_ble_eq_true rfl, Nat.le_of_ble_eq_true rfl, Nat.le_of_ble_eq_true rfl, Nat.le_of_ble_eq_true rfl⟩ k
set_option maxRecDepth 4000 in
theorem B_X9_add_18 {Q : oQ} {K : oK} (hK : oCl tb_X9_add Q K) {sh : oS} {I : Nat → Nat → Int} {L : Nat → Nat → Int64} {h1 : Nat} {x3 : Int} {x4 : Int} {x6 : Int} {s0 : Int} (n18 : inR s0) (kt : s0 = 0 → K 46 [none, none, none, none, none, none, none, none] [] (sh, I, L) (0, 0)) (kf : ¬ (s0 = 0) → K 21 [some (vR 25), some (vR h1), none, some (vI x3), some (vI x4), none, some (vI x6), none] [] (sh, I, L) (0, 0)) : K 18 [some (vR 25), some (vR h1), none, some (vI x3), some (vI x4), none, some (vI x6), none] [vI s0] (sh, I, L) (0, 0) := by
  refine hK.1 18 [some (vR 25), some (vR h1), none, some (vI x3), some (vI x4), none, some (vI x6), none] [vI s0] (sh, I, L) (0, 0) ?_
  exact And.intro (n18) (And.intro (fun h => hK.2 [false, false, false, false, false, false, false, false] _ _ _ _ _ (kt h)) (fun h => hK.2 [true, true, false, true, true, false, true, false] _ _ _ _ _ (kf h)))
set_option maxRecDepth 4000 in
theorem B_X9_add_21 {Q : oQ} {K : oK} (hK : oCl tb_X9_add Q K) {sh : oS} {I : Nat → Nat → Int} {L : Nat → Nat → Int64} {h1 : Nat} {x3 : Int} {x4 : Int} {x6 : Int} {h1f h1w : Nat} (Ah1 : LandAt sh h1 h1f h1w) (b26 : 0 ≤ x3 ∧ x3 < 8) (n27 : inR (I h1w (x3.toNat))) (kt : I h1w (x3.toNat) = 0 → K 46 [none, none, none, none, none, none, none, none] [] (sh, I, L) (0, 0)) (kf : ¬ (I h1w (x3.toNat) = 0) → K 30 [some (vR 25), none, none, some (vI x3), some (vI x4), none, some (vI x6), none] [] (sh, I, L) (0, 0)) : K 21 [some (vR 25), some (vR h1), none, some (vI x3), some (vI x4), none, some (vI x6), none] [] (sh, I, L) (0, 0) := by
  refine hK.1 21 [some (vR 25), some (vR h1), none, some (vI x3), some (vI x4), none, some (vI x6), none] [] (sh, I, L) (0, 0) ?_
  refine hK.1 22 [some (vR 25), some (vR h1), none, some (vI x3), some (vI x4), none, some (vI x6), none] [vR h1] (sh, I, L) (0, 0) ?_
  refine And.intro (mem1 Ah1.1) (Exists.intro h1w (And.intro Ah1.2.2.1 ?_))
  refine hK.1 25 [some (vR 25), some (vR h1), none, some (vI x3), some (vI x4), none, some (vI x6), none] [vR h1w] (sh, I, L) (0, 0) ?_
  refine hK.1 26 [some (vR 25), some (vR h1), none, some (vI x3), some (vI x4), none, some (vI x6), none] [vI x3, vR h1w] (sh, I, L) (0, 0) ?_
  refine And.intro (And.intro (Ah1.2.2.2.2.1) (ixL (Ah1.2.2.2.2.2) b26)) ?_
  refine hK.1 27 [some (vR 25), some (vR h1), none, some (vI x3), some (vI x4), none, some (vI x6), none] [vI (I h1w (x3.toNat))] (sh, I, L) (0, 0) ?_
  exact And.intro (n27) (And.intro (fun h => hK.2 [false, false, false, false, false, false, false, false] _ _ _ _ _ (kt h)) (fun h => hK.2 [true, false, false, true, true, false, true, false] _ _ _ _ _ (kf h)))
set_option maxRecDepth 4000 in
theorem B_X9_add_30 {Q : oQ} {K : oK} (hK : oCl tb_X9_add Q K) {sh : oS} {I : Nat → Nat → Int} {L : Nat → Nat → Int64} {x3 : Int} {x4 : Int} {x6 : Int} (n34a : inR x4) (n34b : inR x6) (kt : x6 < x4 → K 46 [none, none, none, none, none, none, none, none] [] (sh, I, L) (0, 0)) (kf : ¬ (x6 < x4) → K 37 [some (vR 25), none, none, some (vI x3), some (vI x4), none, some (vI x6), none] [] (sh, I, L) (0, 0)) : K 30 [some (vR 25), none, none, some (vI x3), some (vI x4), none, some (vI x6), none] [] (sh, I, L) (0, 0) := by
  refine hK.1 30 [some (vR 25), none, none, some (vI x3), some (vI x4), none, some (vI x6), none] [] (sh, I, L) (0, 0) ?_
  refine hK.1 32 [some (vR 25), none, none, some (vI x3), some (vI x4), none, some (vI x6), none] [vI x4] (sh, I, L) (0, 0) ?_
  refine hK.1 34 [some (vR 25), none, none, some (vI x3), some (vI x4), none, some (vI x6), none] [vI x6, vI x4] (sh, I, L) (0, 0) ?_
  exact And.intro (And.intro n34a n34b) (And.intro (fun h => hK.2 [false, false, false, false, false, false, false, false] _ _ _ _ _ (kt h)) (fun h => hK.2 [true, false, false, true, true, false, true, false] _ _ _ _ _ (kf h)))
set_option maxRecDepth 4000 in
theorem B_X9_add_37 {Q : oQ} {K : oK} (hK : oCl tb_X9_add Q K) {sh : oS} (hs : Sh sh) {I : Nat → Nat → Int} {L : Nat → Nat → Int64} {x3 : Int} {x4 : Int} {x6 : Int} (n43a : inR (I 25 3)) (kt : I 25 3 < 30 → K 47 [some (vR 25), none, none, some (vI x3), some (vI x4), none, some (vI x6), none] [] (sh, I, L) (0, 0)) (kf : ¬ (I 25 3 < 30) → K 46 [none, none, none, none, none, none, none, none] [] (sh, I, L) (0, 0)) : K 37 [some (vR 25), none, none, some (vI x3), some (vI x4), none, some (vI x6), none] [] (sh, I, L) (0, 0) := by
  refine hK.1 37 [some (vR 25), none, none, some (vI x3), some (vI x4), none, some (vI x6), none] [] (sh, I, L) (0, 0) ?_
  refine hK.1 38 [some (vR 25), none, none, some (vI x3), some (vI x4), none, some (vI x6), none] [vR 25] (sh, I, L) (0, 0) ?_
  refine And.intro (mem1 (sk_25 hs)) ?_
  refine hK.1 41 [some (vR 25), none, none, some (vI x3), some (vI x4), none, some (vI x6), none] [vI (I 25 3)] (sh, I, L) (0, 0) ?_
  refine hK.1 43 [some (vR 25), none, none, some (vI x3), some (vI x4), none, some (vI x6), none] [vI 30, vI (I 25 3)] (sh, I, L) (0, 0) ?_
  exact And.intro (And.intro n43a ⟨by decide, by decide⟩) (And.intro (fun h => hK.2 [true, false, false, true, true, false, true, false] _ _ _ _ _ (kt h)) (fun h => hK.2 [false, false, false, false, false, false, false, false] _ _ _ _ _ (kf h)))
set_option maxRecDepth 4000 in
theorem B_X9_add_46 {Q : oQ} {K : oK} (hK : oCl tb_X9_add Q K) {sh : oS} {I : Nat → Nat → Int} {L : Nat → Nat → Int64}  (k : Q none (sh, I, L)) : K 46 [none, none, none, none, none, none, none, none] [] (sh, I, L) (0, 0) := by
  refine hK.1 46 [none, none, none, none, none, none, none, none] [] (sh, I, L) (0, 0) ?_
  exact And.intro rfl (And.intro ⟨by decide, by decide⟩ k)
set_option maxRecDepth 4000 in
theorem B_X9_add_47 {Q : oQ} {K : oK} (hK : oCl tb_X9_add Q K) {sh : oS} (hs : Sh sh) {I : Nat → Nat → Int} {L : Nat → Nat → Int64} {x3 : Int} {x4 : Int} {x6 : Int} (k : K 53 [some (vR 25), none, none, some (vI x3), some (vI x4), none, some (vI x6), some (vI (I 25 3))] [] (sh, I, L) (0, 0)) : K 47 [some (vR 25), none, none, some (vI x3), some (vI x4), none, some (vI x6), none] [] (sh, I, L) (0, 0) := by
  refine hK.1 47 [some (vR 25), none, none, some (vI x3), some (vI x4), none, some (vI x6), none] [] (sh, I, L) (0, 0) ?_
  refine hK.1 48 [some (vR 25), none, none, some (vI x3), some (vI x4), none, some (vI x6), none] [vR 25] (sh, I, L) (0, 0) ?_
  refine And.intro (mem1 (sk_25 hs)) ?_
  refine hK.1 51 [some (vR 25), none, none, some (vI x3), some (vI x4), none, some (vI x6), none] [vI (I 25 3)] (sh, I, L) (0, 0) ?_
  exact k
set_option maxRecDepth 4000 in
theorem B_X9_add_53 {Q : oQ} {K : oK} (hK : oCl tb_X9_add Q K) {sh : oS} {I : Nat → Nat → Int} {L : Nat → Nat → Int64} {x3 : Int} {x4 : Int} {x6 : Int} {x7 : Int} (n55 : inR x7) (kt : x7 ≤ 0 → K 128 [some (vR 25), none, none, some (vI x3), some (vI x4), none, some (vI x6), some (vI x7)] [] (sh, I, L) (0, 0)) (kf : ¬ (x7 ≤ 0) → K 58 [some (vR 25), none, none, some (vI x3), some (vI x4), none, some (vI x6), some (vI x7)] [] (sh, I, L) (0, 0)) : K 53 [some (vR 25), none, none, some (vI x3), some (vI x4), none, some (vI x6), some (vI x7)] [] (sh, I, L) (0, 0) := by
  refine hK.1 53 [some (vR 25), none, none, some (vI x3), some (vI x4), none, some (vI x6), some (vI x7)] [] (sh, I, L) (0, 0) ?_
  refine hK.1 55 [some (vR 25), none, none, some (vI x3), some (vI x4), none, some (vI x6), some (vI x7)] [vI x7] (sh, I, L) (0, 0) ?_
  exact And.intro (n55) (And.intro (fun h => hK.2 [true, false, false, true, true, false, true, true] _ _ _ _ _ (kt h)) (fun h => hK.2 [true, false, false, true, true, false, true, true] _ _ _ _ _ (kf h)))
set_option maxRecDepth 4000 in
theorem B_X9_add_58 {Q : oQ} {K : oK} (hK : oCl tb_X9_add Q K) {sh : oS} (hs : Sh sh) {I : Nat → Nat → Int} {L : Nat → Nat → Int64} {x3 : Int} {x4 : Int} {x6 : Int} {x7 : Int} (k : T_X9_isBehind [vR 25, vI (x7 - 1), vI x3, vI x4, vI x6] (sh, I, L) (fun r mm => K 71 [some (vR 25), none, none, some (vI x3), some (vI x4), none, some (vI x6), some (vI x7)] (r.toList ++ []) mm (0, 0))) : K 58 [some (vR 25), none, none, some (vI x3), some (vI x4), none, some (vI x6), some (vI x7)] [] (sh, I, L) (0, 0) := by
  refine hK.1 58 [some (vR 25), none, none, some (vI x3), some (vI x4), none, some (vI x6), some (vI x7)] [] (sh, I, L) (0, 0) ?_
  refine hK.1 59 [some (vR 25), none, none, some (vI x3), some (vI x4), none, some (vI x6), some (vI x7)] [vR 25] (sh, I, L) (0, 0) ?_
  refine hK.1 61 [some (vR 25), none, none, some (vI x3), some (vI x4), none, some (vI x6), some (vI x7)] [vI x7, vR 25] (sh, I, L) (0, 0) ?_
  refine hK.1 62 [some (vR 25), none, none, some (vI x3), some (vI x4), none, some (vI x6), some (vI x7)] [vI 1, vI x7, vR 25] (sh, I, L) (0, 0) ?_
  refine hK.1 63 [some (vR 25), none, none, some (vI x3), some (vI x4), none, some (vI x6), some (vI x7)] [vI (x7 - 1), vR 25] (sh, I, L) (0, 0) ?_
  refine hK.1 64 [some (vR 25), none, none, some (vI x3), some (vI x4), none, some (vI x6), some (vI x7)] [vI x3, vI (x7 - 1), vR 25] (sh, I, L) (0, 0) ?_
  refine hK.1 66 [some (vR 25), none, none, some (vI x3), some (vI x4), none, some (vI x6), some (vI x7)] [vI x4, vI x3, vI (x7 - 1), vR 25] (sh, I, L) (0, 0) ?_
  refine hK.1 68 [some (vR 25), none, none, some (vI x3), some (vI x4), none, some (vI x6), some (vI x7)] [vI x6, vI x4, vI x3, vI (x7 - 1), vR 25] (sh, I, L) (0, 0) ?_
  exact And.intro ⟨(sk_25 hs), Nat.le_of_ble_eq_true rfl, Nat.le_of_ble_eq_true rfl, Nat.le_of_ble_eq_true rfl, Nat.le_of_ble_eq_true rfl⟩ k
set_option maxRecDepth 4000 in
theorem B_X9_add_71 {Q : oQ} {K : oK} (hK : oCl tb_X9_add Q K) {sh : oS} {I : Nat → Nat → Int} {L : Nat → Nat → Int64} {x3 : Int} {x4 : Int} {x6 : Int} {x7 : Int} {s0 : Int} (n71 : inR s0) (kt : s0 = 0 → K 128 [some (vR 25), none, none, some (vI x3), some (vI x4), none, some (vI x6), some (vI x7)] [] (sh, I, L) (0, 0)) (kf : ¬ (s0 = 0) → K 74 [some (vR 25), none, none, some (vI x3), some (vI x4), none, some (vI x6), some (vI x7)] [] (sh, I, L) (0, 0)) : K 71 [some (vR 25), none, none, some (vI x3), some (vI x4), none, some (vI x6), some (vI x7)] [vI s0] (sh, I, L) (0, 0) := by
  refine hK.1 71 [some (vR 25), none, none, some (vI x3), some (vI x4), none, some (vI x6), some (vI x7)] [vI s0] (sh, I, L) (0, 0) ?_
  exact And.intro (n71) (And.intro (fun h => hK.2 [true, false, false, true, true, false, true, true] _ _ _ _ _ (kt h)) (fun h => hK.2 [true, false, false, true, true, false, true, true] _ _ _ _ _ (kf h)))
set_option maxRecDepth 4000 in
theorem B_X9_add_74 {Q : oQ} {K : oK} (hK : oCl tb_X9_add Q K) {sh : oS} (hs : Sh sh) {I : Nat → Nat → Int} {L : Nat → Nat → Int64} {x3 : Int} {x4 : Int} {x6 : Int} {x7 : Int} (b88 : 0 ≤ x7 - 1 ∧ x7 - 1 < 30) (b89 : 0 ≤ x7 ∧ x7 < 30) (k : K 53 [some (vR 25), none, none, some (vI x3), some (vI x4), none, some (vI x6), some (vI (x7 + (-1)))] [] (sh, (u2 (u2 (u2 I 26 (x7.toNat) (I 26 ((x7 - 1).toNat))) 27 (x7.toNat) (I 27 ((x7 - 1).toNat))) 28 (x7.toNat) (I 28 ((x7 - 1).toNat))), L) (0, 0)) : K 74 [some (vR 25), none, none, some (vI x3), some (vI x4), none, some (vI x6), some (vI x7)] [] (sh, I, L) (0, 0) := by
  refine hK.1 74 [some (vR 25), none, none, some (vI x3), some (vI x4), none, some (vI x6), some (vI x7)] [] (sh, I, L) (0, 0) ?_
  refine hK.1 75 [some (vR 25), none, none, some (vI x3), some (vI x4), none, some (vI x6), some (vI x7)] [vR 25] (sh, I, L) (0, 0) ?_
  refine And.intro (mem1 (sk_25 hs)) (Exists.intro 26 (And.intro (sr_25_0 hs) ?_))
  refine hK.1 78 [some (vR 25), none, none, some (vI x3), some (vI x4), none, some (vI x6), some (vI x7)] [vR 26] (sh, I, L) (0, 0) ?_
  refine hK.1 80 [some (vR 25), none, none, some (vI x3), some (vI x4), none, some (vI x6), some (vI x7)] [vI x7, vR 26] (sh, I, L) (0, 0) ?_
  refine hK.1 81 [some (vR 25), none, none, some (vI x3), some (vI x4), none, some (vI x6), some (vI x7)] [vR 25, vI x7, vR 26] (sh, I, L) (0, 0) ?_
  refine And.intro (mem1 (sk_25 hs)) (Exists.intro 26 (And.intro (sr_25_0 hs) ?_))
  refine hK.1 84 [some (vR 25), none, none, some (vI x3), some (vI x4), none, some (vI x6), some (vI x7)] [vR 26, vI x7, vR 26] (sh, I, L) (0, 0) ?_
  refine hK.1 86 [some (vR 25), none, none, some (vI x3), some (vI x4), none, some (vI x6), some (vI x7)] [vI x7, vR 26, vI x7, vR 26] (sh, I, L) (0, 0) ?_
  refine hK.1 87 [some (vR 25), none, none, some (vI x3), some (vI x4), none, some (vI x6), some (vI x7)] [vI 1, vI x7, vR 26, vI x7, vR 26] (sh, I, L) (0, 0) ?_
  refine hK.1 88 [some (vR 25), none, none, some (vI x3), some (vI x4), none, some (vI x6), some (vI x7)] [vI (x7 - 1), vR 26, vI x7, vR 26] (sh, I, L) (0, 0) ?_
  refine And.intro (And.intro (sk_26 hs) (ixL (sl_26 hs) b88)) ?_
  refine hK.1 89 [some (vR 25), none, none, some (vI x3), some (vI x4), none, some (vI x6), some (vI x7)] [vI (I 26 ((x7 - 1).toNat)), vI x7, vR 26] (sh, I, L) (0, 0) ?_
  refine And.intro (And.intro (sk_26 hs) (ixL (sl_26 hs) b89)) ?_
  refine hK.1 90 [some (vR 25), none, none, some (vI x3), some (vI x4), none, some (vI x6), some (vI x7)] [] (sh, (u2 I 26 (x7.toNat) (I 26 ((x7 - 1).toNat))), L) (0, 0) ?_
  refine hK.1 91 [some (vR 25), none, none, some (vI x3), some (vI x4), none, some (vI x6), some (vI x7)] [vR 25] (sh, (u2 I 26 (x7.toNat) (I 26 ((x7 - 1).toNat))), L) (0, 0) ?_
  refine And.intro (mem1 (sk_25 hs)) (Exists.intro 27 (And.intro (sr_25_1 hs) ?_))
  refine hK.1 94 [some (vR 25), none, none, some (vI x3), some (vI x4), none, some (vI x6), some (vI x7)] [vR 27] (sh, (u2 I 26 (x7.toNat) (I 26 ((x7 - 1).toNat))), L) (0, 0) ?_
  refine hK.1 96 [some (vR 25), none, none, some (vI x3), some (vI x4), none, some (vI x6), some (vI x7)] [vI x7, vR 27] (sh, (u2 I 26 (x7.toNat) (I 26 ((x7 - 1).toNat))), L) (0, 0) ?_
  refine hK.1 97 [some (vR 25), none, none, some (vI x3), some (vI x4), none, some (vI x6), some (vI x7)] [vR 25, vI x7, vR 27] (sh, (u2 I 26 (x7.toNat) (I 26 ((x7 - 1).toNat))), L) (0, 0) ?_
  refine And.intro (mem1 (sk_25 hs)) (Exists.intro 27 (And.intro (sr_25_1 hs) ?_))
  refine hK.1 100 [some (vR 25), none, none, some (vI x3), some (vI x4), none, some (vI x6), some (vI x7)] [vR 27, vI x7, vR 27] (sh, (u2 I 26 (x7.toNat) (I 26 ((x7 - 1).toNat))), L) (0, 0) ?_
  refine hK.1 102 [some (vR 25), none, none, some (vI x3), some (vI x4), none, some (vI x6), some (vI x7)] [vI x7, vR 27, vI x7, vR 27] (sh, (u2 I 26 (x7.toNat) (I 26 ((x7 - 1).toNat))), L) (0, 0) ?_
  refine hK.1 103 [some (vR 25), none, none, some (vI x3), some (vI x4), none, some (vI x6), some (vI x7)] [vI 1, vI x7, vR 27, vI x7, vR 27] (sh, (u2 I 26 (x7.toNat) (I 26 ((x7 - 1).toNat))), L) (0, 0) ?_
  refine hK.1 104 [some (vR 25), none, none, some (vI x3), some (vI x4), none, some (vI x6), some (vI x7)] [vI (x7 - 1), vR 27, vI x7, vR 27] (sh, (u2 I 26 (x7.toNat) (I 26 ((x7 - 1).toNat))), L) (0, 0) ?_
  refine And.intro (And.intro (sk_27 hs) (ixL (sl_27 hs) b88)) ?_
  refine hK.1 105 [some (vR 25), none, none, some (vI x3), some (vI x4), none, some (vI x6), some (vI x7)] [vI (I 27 ((x7 - 1).toNat)), vI x7, vR 27] (sh, (u2 I 26 (x7.toNat) (I 26 ((x7 - 1).toNat))), L) (0, 0) ?_
  refine And.intro (And.intro (sk_27 hs) (ixL (sl_27 hs) b89)) ?_
  refine hK.1 106 [some (vR 25), none, none, some (vI x3), some (vI x4), none, some (vI x6), some (vI x7)] [] (sh, (u2 (u2 I 26 (x7.toNat) (I 26 ((x7 - 1).toNat))) 27 (x7.toNat) (I 27 ((x7 - 1).toNat))), L) (0, 0) ?_
  refine hK.1 107 [some (vR 25), none, none, some (vI x3), some (vI x4), none, some (vI x6), some (vI x7)] [vR 25] (sh, (u2 (u2 I 26 (x7.toNat) (I 26 ((x7 - 1).toNat))) 27 (x7.toNat) (I 27 ((x7 - 1).toNat))), L) (0, 0) ?_
  refine And.intro (mem1 (sk_25 hs)) (Exists.intro 28 (And.intro (sr_25_2 hs) ?_))
  refine hK.1 110 [some (vR 25), none, none, some (vI x3), some (vI x4), none, some (vI x6), some (vI x7)] [vR 28] (sh, (u2 (u2 I 26 (x7.toNat) (I 26 ((x7 - 1).toNat))) 27 (x7.toNat) (I 27 ((x7 - 1).toNat))), L) (0, 0) ?_
  refine hK.1 112 [some (vR 25), none, none, some (vI x3), some (vI x4), none, some (vI x6), some (vI x7)] [vI x7, vR 28] (sh, (u2 (u2 I 26 (x7.toNat) (I 26 ((x7 - 1).toNat))) 27 (x7.toNat) (I 27 ((x7 - 1).toNat))), L) (0, 0) ?_
  refine hK.1 113 [some (vR 25), none, none, some (vI x3), some (vI x4), none, some (vI x6), some (vI x7)] [vR 25, vI x7, vR 28] (sh, (u2 (u2 I 26 (x7.toNat) (I 26 ((x7 - 1).toNat))) 27 (x7.toNat) (I 27 ((x7 - 1).toNat))), L) (0, 0) ?_
  refine And.intro (mem1 (sk_25 hs)) (Exists.intro 28 (And.intro (sr_25_2 hs) ?_))
  refine hK.1 116 [some (vR 25), none, none, some (vI x3), some (vI x4), none, some (vI x6), some (vI x7)] [vR 28, vI x7, vR 28] (sh, (u2 (u2 I 26 (x7.toNat) (I 26 ((x7 - 1).toNat))) 27 (x7.toNat) (I 27 ((x7 - 1).toNat))), L) (0, 0) ?_
  refine hK.1 118 [some (vR 25), none, none, some (vI x3), some (vI x4), none, some (vI x6), some (vI x7)] [vI x7, vR 28, vI x7, vR 28] (sh, (u2 (u2 I 26 (x7.toNat) (I 26 ((x7 - 1).toNat))) 27 (x7.toNat) (I 27 ((x7 - 1).toNat))), L) (0, 0) ?_
  refine hK.1 119 [some (vR 25), none, none, some (vI x3), some (vI x4), none, some (vI x6), some (vI x7)] [vI 1, vI x7, vR 28, vI x7, vR 28] (sh, (u2 (u2 I 26 (x7.toNat) (I 26 ((x7 - 1).toNat))) 27 (x7.toNat) (I 27 ((x7 - 1).toNat))), L) (0, 0) ?_
  refine hK.1 120 [some (vR 25), none, none, some (vI x3), some (vI x4), none, some (vI x6), some (vI x7)] [vI (x7 - 1), vR 28, vI x7, vR 28] (sh, (u2 (u2 I 26 (x7.toNat) (I 26 ((x7 - 1).toNat))) 27 (x7.toNat) (I 27 ((x7 - 1).toNat))), L) (0, 0) ?_
  refine And.intro (And.intro (sk_28 hs) (ixL (sl_28 hs) b88)) ?_
  refine hK.1 121 [some (vR 25), none, none, some (vI x3), some (vI x4), none, some (vI x6), some (vI x7)] [vI (I 28 ((x7 - 1).toNat)), vI x7, vR 28] (sh, (u2 (u2 I 26 (x7.toNat) (I 26 ((x7 - 1).toNat))) 27 (x7.toNat) (I 27 ((x7 - 1).toNat))), L) (0, 0) ?_
  refine And.intro (And.intro (sk_28 hs) (ixL (sl_28 hs) b89)) ?_
  refine hK.1 122 [some (vR 25), none, none, some (vI x3), some (vI x4), none, some (vI x6), some (vI x7)] [] (sh, (u2 (u2 (u2 I 26 (x7.toNat) (I 26 ((x7 - 1).toNat))) 27 (x7.toNat) (I 27 ((x7 - 1).toNat))) 28 (x7.toNat) (I 28 ((x7 - 1).toNat))), L) (0, 0) ?_
  refine hK.1 125 [some (vR 25), none, none, some (vI x3), some (vI x4), none, some (vI x6), some (vI (x7 + (-1)))] [] (sh, (u2 (u2 (u2 I 26 (x7.toNat) (I 26 ((x7 - 1).toNat))) 27 (x7.toNat) (I 27 ((x7 - 1).toNat))) 28 (x7.toNat) (I 28 ((x7 - 1).toNat))), L) (0, 0) ?_
  exact k
set_option maxRecDepth 4000 in
theorem B_X9_add_128 {Q : oQ} {K : oK} (hK : oCl tb_X9_add Q K) {sh : oS} (hs : Sh sh) {I : Nat → Nat → Int} {L : Nat → Nat → Int64} {x3 : Int} {x4 : Int} {x6 : Int} {x7 : Int} (b135 : 0 ≤ x7 ∧ x7 < 30) (k : Q none (sh, (u2 (u2 (u2 (u2 I 26 (x7.toNat) x3) 27 (x7.toNat) x4) 28 (x7.toNat) x6) 25 3 ((I 25 3) + 1)), L)) : K 128 [some (vR 25), none, none, some (vI x3), some (vI x4), none, some (vI x6), some (vI x7)] [] (sh, I, L) (0, 0) := by
  refine hK.1 128 [some (vR 25), none, none, some (vI x3), some (vI x4), none, some (vI x6), some (vI x7)] [] (sh, I, L) (0, 0) ?_
  refine hK.1 129 [some (vR 25), none, none, some (vI x3), some (vI x4), none, some (vI x6), some (vI x7)] [vR 25] (sh, I, L) (0, 0) ?_
  refine And.intro (mem1 (sk_25 hs)) (Exists.intro 26 (And.intro (sr_25_0 hs) ?_))
  refine hK.1 132 [some (vR 25), none, none, some (vI x3), some (vI x4), none, some (vI x6), some (vI x7)] [vR 26] (sh, I, L) (0, 0) ?_
  refine hK.1 134 [some (vR 25), none, none, some (vI x3), some (vI x4), none, some (vI x6), some (vI x7)] [vI x7, vR 26] (sh, I, L) (0, 0) ?_
  refine hK.1 135 [some (vR 25), none, none, some (vI x3), some (vI x4), none, some (vI x6), some (vI x7)] [vI x3, vI x7, vR 26] (sh, I, L) (0, 0) ?_
  refine And.intro (And.intro (sk_26 hs) (ixL (sl_26 hs) b135)) ?_
  refine hK.1 136 [some (vR 25), none, none, some (vI x3), some (vI x4), none, some (vI x6), some (vI x7)] [] (sh, (u2 I 26 (x7.toNat) x3), L) (0, 0) ?_
  refine hK.1 137 [some (vR 25), none, none, some (vI x3), some (vI x4), none, some (vI x6), some (vI x7)] [vR 25] (sh, (u2 I 26 (x7.toNat) x3), L) (0, 0) ?_
  refine And.intro (mem1 (sk_25 hs)) (Exists.intro 27 (And.intro (sr_25_1 hs) ?_))
  refine hK.1 140 [some (vR 25), none, none, some (vI x3), some (vI x4), none, some (vI x6), some (vI x7)] [vR 27] (sh, (u2 I 26 (x7.toNat) x3), L) (0, 0) ?_
  refine hK.1 142 [some (vR 25), none, none, some (vI x3), some (vI x4), none, some (vI x6), some (vI x7)] [vI x7, vR 27] (sh, (u2 I 26 (x7.toNat) x3), L) (0, 0) ?_
  refine hK.1 144 [some (vR 25), none, none, some (vI x3), some (vI x4), none, some (vI x6), some (vI x7)] [vI x4, vI x7, vR 27] (sh, (u2 I 26 (x7.toNat) x3), L) (0, 0) ?_
  refine And.intro (And.intro (sk_27 hs) (ixL (sl_27 hs) b135)) ?_
  refine hK.1 145 [some (vR 25), none, none, some (vI x3), some (vI x4), none, some (vI x6), some (vI x7)] [] (sh, (u2 (u2 I 26 (x7.toNat) x3) 27 (x7.toNat) x4), L) (0, 0) ?_
  refine hK.1 146 [some (vR 25), none, none, some (vI x3), some (vI x4), none, some (vI x6), some (vI x7)] [vR 25] (sh, (u2 (u2 I 26 (x7.toNat) x3) 27 (x7.toNat) x4), L) (0, 0) ?_
  refine And.intro (mem1 (sk_25 hs)) (Exists.intro 28 (And.intro (sr_25_2 hs) ?_))
  refine hK.1 149 [some (vR 25), none, none, some (vI x3), some (vI x4), none, some (vI x6), some (vI x7)] [vR 28] (sh, (u2 (u2 I 26 (x7.toNat) x3) 27 (x7.toNat) x4), L) (0, 0) ?_
  refine hK.1 151 [some (vR 25), none, none, some (vI x3), some (vI x4), none, some (vI x6), some (vI x7)] [vI x7, vR 28] (sh, (u2 (u2 I 26 (x7.toNat) x3) 27 (x7.toNat) x4), L) (0, 0) ?_
  refine hK.1 153 [some (vR 25), none, none, some (vI x3), some (vI x4), none, some (vI x6), some (vI x7)] [vI x6, vI x7, vR 28] (sh, (u2 (u2 I 26 (x7.toNat) x3) 27 (x7.toNat) x4), L) (0, 0) ?_
  refine And.intro (And.intro (sk_28 hs) (ixL (sl_28 hs) b135)) ?_
  refine hK.1 154 [some (vR 25), none, none, some (vI x3), some (vI x4), none, some (vI x6), some (vI x7)] [] (sh, (u2 (u2 (u2 I 26 (x7.toNat) x3) 27 (x7.toNat) x4) 28 (x7.toNat) x6), L) (0, 0) ?_
  refine hK.1 155 [some (vR 25), none, none, some (vI x3), some (vI x4), none, some (vI x6), some (vI x7)] [vR 25] (sh, (u2 (u2 (u2 I 26 (x7.toNat) x3) 27 (x7.toNat) x4) 28 (x7.toNat) x6), L) (0, 0) ?_
  refine hK.1 156 [some (vR 25), none, none, some (vI x3), some (vI x4), none, some (vI x6), some (vI x7)] [vR 25, vR 25] (sh, (u2 (u2 (u2 I 26 (x7.toNat) x3) 27 (x7.toNat) x4) 28 (x7.toNat) x6), L) (0, 0) ?_
  refine And.intro (mem1 (sk_25 hs)) ?_
  refine hK.1 159 [some (vR 25), none, none, some (vI x3), some (vI x4), none, some (vI x6), some (vI x7)] [vI (I 25 3), vR 25] (sh, (u2 (u2 (u2 I 26 (x7.toNat) x3) 27 (x7.toNat) x4) 28 (x7.toNat) x6), L) (0, 0) ?_
  refine hK.1 160 [some (vR 25), none, none, some (vI x3), some (vI x4), none, some (vI x6), some (vI x7)] [vI 1, vI (I 25 3), vR 25] (sh, (u2 (u2 (u2 I 26 (x7.toNat) x3) 27 (x7.toNat) x4) 28 (x7.toNat) x6), L) (0, 0) ?_
  refine hK.1 161 [some (vR 25), none, none, some (vI x3), some (vI x4), none, some (vI x6), some (vI x7)] [vI ((I 25 3) + 1), vR 25] (sh, (u2 (u2 (u2 I 26 (x7.toNat) x3) 27 (x7.toNat) x4) 28 (x7.toNat) x6), L) (0, 0) ?_
  refine And.intro (mem1 (sk_25 hs)) ?_
  refine hK.1 164 [some (vR 25), none, none, some (vI x3), some (vI x4), none, some (vI x6), some (vI x7)] [] (sh, (u2 (u2 (u2 (u2 I 26 (x7.toNat) x3) 27 (x7.toNat) x4) 28 (x7.toNat) x6) 25 3 ((I 25 3) + 1)), L) (0, 0) ?_
  exact And.intro rfl (And.intro ⟨by decide, by decide⟩ k)
set_option maxRecDepth 4000 in
theorem B_X0_pitch_0 {Q : oQ} {K : oK} (hK : oCl tb_X0_pitch Q K) {sh : oS} (hs : Sh sh) {I : Nat → Nat → Int} {L : Nat → Nat → Int64} {h0 : Nat} {h2 : Nat} {h3 : Nat} {x4 : Int} (k : K 11 [some (vR h0), some (vR 24), some (vR h2), some (vR h3), some (vI x4), some (vI 0)] [] (sh, (u2 I 25 3 0), L) (0, 0)) : K 0 [some (vR h0), some (vR 24), some (vR h2), some (vR h3), some (vI x4), none] [] (sh, I, L) (0, 0) := by
  refine hK.1 0 [some (vR h0), some (vR 24), some (vR h2), some (vR h3), some (vI x4), none] [] (sh, I, L) (0, 0) ?_
  refine hK.1 1 [some (vR h0), some (vR 24), some (vR h2), some (vR h3), some (vI x4), none] [vR 24] (sh, I, L) (0, 0) ?_
  refine And.intro (mem1 (sk_24 hs)) (Exists.intro 25 (And.intro (sr_24_0 hs) ?_))
  refine hK.1 4 [some (vR h0), some (vR 24), some (vR h2), some (vR h3), some (vI x4), none] [vR 25] (sh, I, L) (0, 0) ?_
  refine hK.1 5 [some (vR h0), some (vR 24), some (vR h2), some (vR h3), some (vI x4), none] [vI 0, vR 25] (sh, I, L) (0, 0) ?_
  refine And.intro (mem1 (sk_25 hs)) ?_
  refine hK.1 8 [some (vR h0), some (vR 24), some (vR h2), some (vR h3), some (vI x4), none] [] (sh, (u2 I 25 3 0), L) (0, 0) ?_
  refine hK.1 9 [some (vR h0), some (vR 24), some (vR h2), some (vR h3), some (vI x4), none] [vI 0] (sh, (u2 I 25 3 0), L) (0, 0) ?_
  exact k
set_option maxRecDepth 4000 in
theorem B_X0_pitch_11 {Q : oQ} {K : oK} (hK : oCl tb_X0_pitch Q K) {sh : oS} {I : Nat → Nat → Int} {L : Nat → Nat → Int64} {h0 : Nat} {h2 : Nat} {h3 : Nat} {x4 : Int} {x5 : Int} (n15a : inR x5) (n15b : inR x4) (kt : x4 ≤ x5 → K 43 [none, none, none, none, none, none] [] (sh, I, L) (0, 0)) (kf : ¬ (x4 ≤ x5) → K 18 [some (vR h0), some (vR 24), some (vR h2), some (vR h3), some (vI x4), some (vI x5)] [] (sh, I, L) (0, 0)) : K 11 [some (vR h0), some (vR 24), some (vR h2), some (vR h3), some (vI x4), some (vI x5)] [] (sh, I, L) (0, 0) := by
  refine hK.1 11 [some (vR h0), some (vR 24), some (vR h2), some (vR h3), some (vI x4), some (vI x5)] [] (sh, I, L) (0, 0) ?_
  refine hK.1 13 [some (vR h0), some (vR 24), some (vR h2), some (vR h3), some (vI x4), some (vI x5)] [vI x5] (sh, I, L) (0, 0) ?_
  refine hK.1 15 [some (vR h0), some (vR 24), some (vR h2), some (vR h3), some (vI x4), some (vI x5)] [vI x4, vI x5] (sh, I, L) (0, 0) ?_
  exact And.intro (And.intro n15a n15b) (And.intro (fun h => hK.2 [false, false, false, false, false, false] _ _ _ _ _ (kt h)) (fun h => hK.2 [true, true, true, true, true, true] _ _ _ _ _ (kf h)))
set_option maxRecDepth 4000 in
theorem B_X0_pitch_18 {Q : oQ} {K : oK} (hK : oCl tb_X0_pitch Q K) {sh : oS} (hs : Sh sh) {I : Nat → Nat → Int} {L : Nat → Nat → Int64} {h0 : Nat} {h2 : Nat} {h3 : Nat} {x4 : Int} {x5 : Int} (kh0_0 : sK sh h0 ∈ [0, 1, 3, 5, 10]) (k : T_X9_add [vR 25, vR h2, vR h3, vI (I h0 1), vI (I h0 1), vI 10] (sh, I, L) (fun r mm => K 37 [some (vR h0), some (vR 24), some (vR h2), some (vR h3), some (vI x4), some (vI x5)] (r.toList ++ []) mm (0, 0))) : K 18 [some (vR h0), some (vR 24), some (vR h2), some (vR h3), some (vI x4), some (vI x5)] [] (sh, I, L) (0, 0) := by
  refine hK.1 18 [some (vR h0), some (vR 24), some (vR h2), some (vR h3), some (vI x4), some (vI x5)] [] (sh, I, L) (0, 0) ?_
  refine hK.1 19 [some (vR h0), some (vR 24), some (vR h2), some (vR h3), some (vI x4), some (vI x5)] [vR 24] (sh, I, L) (0, 0) ?_
  refine And.intro (mem1 (sk_24 hs)) (Exists.intro 25 (And.intro (sr_24_0 hs) ?_))
  refine hK.1 22 [some (vR h0), some (vR 24), some (vR h2), some (vR h3), some (vI x4), some (vI x5)] [vR 25] (sh, I, L) (0, 0) ?_
  refine hK.1 23 [some (vR h0), some (vR 24), some (vR h2), some (vR h3), some (vI x4), some (vI x5)] [vR h2, vR 25] (sh, I, L) (0, 0) ?_
  refine hK.1 24 [some (vR h0), some (vR 24), some (vR h2), some (vR h3), some (vI x4), some (vI x5)] [vR h3, vR h2, vR 25] (sh, I, L) (0, 0) ?_
  refine hK.1 25 [some (vR h0), some (vR 24), some (vR h2), some (vR h3), some (vI x4), some (vI x5)] [vR h0, vR h3, vR h2, vR 25] (sh, I, L) (0, 0) ?_
  refine And.intro (kh0_0) ?_
  refine hK.1 28 [some (vR h0), some (vR 24), some (vR h2), some (vR h3), some (vI x4), some (vI x5)] [vI (I h0 1), vR h3, vR h2, vR 25] (sh, I, L) (0, 0) ?_
  refine hK.1 29 [some (vR h0), some (vR 24), some (vR h2), some (vR h3), some (vI x4), some (vI x5)] [vR h0, vI (I h0 1), vR h3, vR h2, vR 25] (sh, I, L) (0, 0) ?_
  refine And.intro (kh0_0) ?_
  refine hK.1 32 [some (vR h0), some (vR 24), some (vR h2), some (vR h3), some (vI x4), some (vI x5)] [vI (I h0 1), vI (I h0 1), vR h3, vR h2, vR 25] (sh, I, L) (0, 0) ?_
  refine hK.1 34 [some (vR h0), some (vR 24), some (vR h2), some (vR h3), some (vI x4), some (vI x5)] [vI 10, vI (I h0 1), vI (I h0 1), vR h3, vR h2, vR 25] (sh, I, L) (0, 0) ?_
  exact And.intro ⟨(sk_25 hs), Nat.le_of_ble_eq_true rfl, Nat.le_of_ble_eq_true rfl, Nat.le_of_ble_eq_true rfl, Nat.le_of_ble_eq_true rfl⟩ k
set_option maxRecDepth 4000 in
theorem B_X0_pitch_37 {Q : oQ} {K : oK} (hK : oCl tb_X0_pitch Q K) {sh : oS} {I : Nat → Nat → Int} {L : Nat → Nat → Int64} {h0 : Nat} {h2 : Nat} {h3 : Nat} {x4 : Int} {x5 : Int} (k : K 11 [some (vR h0), some (vR 24), some (vR h2), some (vR h3), some (vI x4), some (vI (x5 + 1))] [] (sh, I, L) (0, 0)) : K 37 [some (vR h0), some (vR 24), some (vR h2), some (vR h3), some (vI x4), some (vI x5)] [] (sh, I, L) (0, 0) := by
  refine hK.1 37 [some (vR h0), some (vR 24), some (vR h2), some (vR h3), some (vI x4), some (vI x5)] [] (sh, I, L) (0, 0) ?_
  refine hK.1 40 [some (vR h0), some (vR 24), some (vR h2), some (vR h3), some (vI x4), some (vI (x5 + 1))] [] (sh, I, L) (0, 0) ?_
  exact k
set_option maxRecDepth 4000 in
theorem B_X0_pitch_43 {Q : oQ} {K : oK} (hK : oCl tb_X0_pitch Q K) {sh : oS} {I : Nat → Nat → Int} {L : Nat → Nat → Int64}  (k : Q none (sh, I, L)) : K 43 [none, none, none, none, none, none] [] (sh, I, L) (0, 0) := by
  refine hK.1 43 [none, none, none, none, none, none] [] (sh, I, L) (0, 0) ?_
  exact And.intro rfl (And.intro ⟨by decide, by decide⟩ k)
set_option maxRecDepth 4000 in
theorem B_X0_takesOneMore_0 {Q : oQ} {K : oK} (hK : oCl tb_X0_takesOneMore Q K) {sh : oS} {I : Nat → Nat → Int} {L : Nat → Nat → Int64} {h0 : Nat} (kh0_0 : sK sh h0 ∈ [0, 1, 3, 5, 10]) (n5a : inR (I h0 0)) (kt : 3 ≤ I h0 0 → K 12 [none] [] (sh, I, L) (0, 0)) (kf : ¬ (3 ≤ I h0 0) → K 8 [none] [] (sh, I, L) (0, 0)) : K 0 [some (vR h0)] [] (sh, I, L) (0, 0) := by
  refine hK.1 0 [some (vR h0)] [] (sh, I, L) (0, 0) ?_
  refine hK.1 1 [some (vR h0)] [vR h0] (sh, I, L) (0, 0) ?_
  refine And.intro (kh0_0) ?_
  refine hK.1 4 [some (vR h0)] [vI (I h0 0)] (sh, I, L) (0, 0) ?_
  refine hK.1 5 [some (vR h0)] [vI 3, vI (I h0 0)] (sh, I, L) (0, 0) ?_
  exact And.intro (And.intro n5a ⟨by decide, by decide⟩) (And.intro (fun h => hK.2 [false] _ _ _ _ _ (kt h)) (fun h => hK.2 [false] _ _ _ _ _ (kf h)))
set_option maxRecDepth 4000 in
theorem B_X0_takesOneMore_8 {Q : oQ} {K : oK} (hK : oCl tb_X0_takesOneMore Q K) {sh : oS} {I : Nat → Nat → Int} {L : Nat → Nat → Int64}  (k : K 13 [none] [vI 1] (sh, I, L) (0, 0)) : K 8 [none] [] (sh, I, L) (0, 0) := by
  refine hK.1 8 [none] [] (sh, I, L) (0, 0) ?_
  refine hK.1 9 [none] [vI 1] (sh, I, L) (0, 0) ?_
  exact k
set_option maxRecDepth 4000 in
theorem B_X0_takesOneMore_12 {Q : oQ} {K : oK} (hK : oCl tb_X0_takesOneMore Q K) {sh : oS} {I : Nat → Nat → Int} {L : Nat → Nat → Int64}  (k : K 13 [none] [vI 0] (sh, I, L) (0, 0)) : K 12 [none] [] (sh, I, L) (0, 0) := by
  refine hK.1 12 [none] [] (sh, I, L) (0, 0) ?_
  exact k
set_option maxRecDepth 4000 in
theorem B_X0_takesOneMore_13 {Q : oQ} {K : oK} (hK : oCl tb_X0_takesOneMore Q K) {sh : oS} {I : Nat → Nat → Int} {L : Nat → Nat → Int64} {s0 : Int} (o13 : s0 = 0 ∨ s0 = 1) (k : Q (some (vI s0)) (sh, I, L)) : K 13 [none] [vI s0] (sh, I, L) (0, 0) := by
  refine hK.1 13 [none] [vI s0] (sh, I, L) (0, 0) ?_
  exact And.intro ⟨o13, by decide, by decide⟩ k
set_option maxRecDepth 4000 in
theorem B_X10_init_0 {Q : oQ} {K : oK} (hK : oCl tb_X10_init Q K) {sh : oS} {I : Nat → Nat → Int} {L : Nat → Nat → Int64} {h0 : Nat} (k : T_X0_init [vR h0, vI 0, vI 0] (sh, I, L) (fun r mm => K 6 [some (vR h0)] (r.toList ++ []) mm (0, 0))) : K 0 [some (vR h0)] [] (sh, I, L) (0, 0) := by
  refine hK.1 0 [some (vR h0)] [] (sh, I, L) (0, 0) ?_
  refine hK.1 1 [some (vR h0)] [vR h0] (sh, I, L) (0, 0) ?_
  refine hK.1 2 [some (vR h0)] [vI 0, vR h0] (sh, I, L) (0, 0) ?_
  refine hK.1 3 [some (vR h0)] [vI 0, vI 0, vR h0] (sh, I, L) (0, 0) ?_
  exact And.intro ⟨Nat.le_of_ble_eq_true rfl, Nat.le_of_ble_eq_true rfl, Nat.le_of_ble_eq_true rfl, Nat.le_of_ble_eq_true rfl⟩ k
set_option maxRecDepth 4000 in
theorem B_X10_init_6 {Q : oQ} {K : oK} (hK : oCl tb_X10_init Q K) {sh : oS} {I : Nat → Nat → Int} {L : Nat → Nat → Int64} {h0 : Nat} (kh0_0 : sK (sNew sh 13 6) h0 = 10) (k : K 14 [some (vR h0)] [] ((sPutR (sNew sh 13 6) h0 2 (some (sN sh))), (iNew sh I), (lNew sh L)) (1, 6)) : K 6 [some (vR h0)] [] (sh, I, L) (0, 0) := by
  refine hK.1 6 [some (vR h0)] [] (sh, I, L) (0, 0) ?_
  refine hK.1 7 [some (vR h0)] [vR h0] (sh, I, L) (0, 0) ?_
  refine hK.1 9 [some (vR h0)] [vI 6, vR h0] (sh, I, L) (0, 0) ?_
  refine And.intro ⟨by decide, by decide, by decide, by decide⟩ ?_
  refine hK.1 11 [some (vR h0)] [vR (sN sh), vR h0] ((sNew sh 13 6), (iNew sh I), (lNew sh L)) (1, 6) ?_
  refine And.intro (mem1 kh0_0) ?_
  exact k
set_option maxRecDepth 4000 in
theorem B_X10_init_14 {Q : oQ} {K : oK} (hK : oCl tb_X10_init Q K) {sh : oS} {I : Nat → Nat → Int} {L : Nat → Nat → Int64} {h0 : Nat} (kh0_0 : sK (sNew sh 13 6) h0 = 10) (k : K 22 [some (vR h0)] [] ((sPutR (sNew sh 13 6) h0 3 (some (sN sh))), (iNew sh I), (lNew sh L)) (2, 12)) : K 14 [some (vR h0)] [] (sh, I, L) (1, 6) := by
  refine hK.1 14 [some (vR h0)] [] (sh, I, L) (1, 6) ?_
  refine hK.1 15 [some (vR h0)] [vR h0] (sh, I, L) (1, 6) ?_
  refine hK.1 17 [some (vR h0)] [vI 6, vR h0] (sh, I, L) (1, 6) ?_
  refine And.intro ⟨by decide, by decide, by decide, by decide⟩ ?_
  refine hK.1 19 [some (vR h0)] [vR (sN sh), vR h0] ((sNew sh 13 6), (iNew sh I), (lNew sh L)) (2, 12) ?_
  refine And.intro (mem1 kh0_0) ?_
  exact k
set_option maxRecDepth 4000 in
theorem B_X10_init_22 {Q : oQ} {K : oK} (hK : oCl tb_X10_init Q K) {sh : oS} {I : Nat → Nat → Int} {L : Nat → Nat → Int64} {h0 : Nat} (kh0_0 : sK (sNew sh 13 6) h0 = 10) (k : K 30 [none] [] ((sPutR (sNew sh 13 6) h0 4 (some (sN sh))), (iNew sh I), (lNew sh L)) (3, 18)) : K 22 [some (vR h0)] [] (sh, I, L) (2, 12) := by
  refine hK.1 22 [some (vR h0)] [] (sh, I, L) (2, 12) ?_
  refine hK.1 23 [some (vR h0)] [vR h0] (sh, I, L) (2, 12) ?_
  refine hK.1 25 [some (vR h0)] [vI 6, vR h0] (sh, I, L) (2, 12) ?_
  refine And.intro ⟨by decide, by decide, by decide, by decide⟩ ?_
  refine hK.1 27 [some (vR h0)] [vR (sN sh), vR h0] ((sNew sh 13 6), (iNew sh I), (lNew sh L)) (3, 18) ?_
  refine And.intro (mem1 kh0_0) ?_
  refine hK.2 [false] _ _ _ _ _ ?_
  exact k
set_option maxRecDepth 4000 in
theorem B_X10_init_30 {Q : oQ} {K : oK} (hK : oCl tb_X10_init Q K) {sh : oS} {I : Nat → Nat → Int} {L : Nat → Nat → Int64}  (k : Q none (sh, I, L)) : K 30 [none] [] (sh, I, L) (3, 18) := by
  refine hK.1 30 [none] [] (sh, I, L) (3, 18) ?_
  exact And.intro rfl (And.intro ⟨by decide, by decide⟩ k)
set_option maxRecDepth 4000 in
theorem B_X10_kind_0 {Q : oQ} {K : oK} (hK : oCl tb_X10_kind Q K) {sh : oS} {I : Nat → Nat → Int} {L : Nat → Nat → Int64} {h0 : Nat} (k : Q (some (vI 4)) (sh, I, L)) : K 0 [some (vR h0)] [] (sh, I, L) (0, 0) := by
  refine hK.1 0 [some (vR h0)] [] (sh, I, L) (0, 0) ?_
  refine hK.1 1 [some (vR h0)] [vI 4] (sh, I, L) (0, 0) ?_
  exact And.intro ⟨by decide, by decide⟩ k
set_option maxRecDepth 4000 in
theorem B_X10_pitch_0 {Q : oQ} {K : oK} (hK : oCl tb_X10_pitch Q K) {sh : oS} (hs : Sh sh) {I : Nat → Nat → Int} {L : Nat → Nat → Int64} {h0 : Nat} {h2 : Nat} {h3 : Nat} {x4 : Int} (k : K 11 [some (vR h0), some (vR 24), some (vR h2), some (vR h3), none, some (vI 0)] [] (sh, (u2 I 25 3 0), L) (0, 0)) : K 0 [some (vR h0), some (vR 24), some (vR h2), some (vR h3), some (vI x4), none] [] (sh, I, L) (0, 0) := by
  refine hK.1 0 [some (vR h0), some (vR 24), some (vR h2), some (vR h3), some (vI x4), none] [] (sh, I, L) (0, 0) ?_
  refine hK.1 1 [some (vR h0), some (vR 24), some (vR h2), some (vR h3), some (vI x4), none] [vR 24] (sh, I, L) (0, 0) ?_
  refine And.intro (mem1 (sk_24 hs)) (Exists.intro 25 (And.intro (sr_24_0 hs) ?_))
  refine hK.1 4 [some (vR h0), some (vR 24), some (vR h2), some (vR h3), some (vI x4), none] [vR 25] (sh, I, L) (0, 0) ?_
  refine hK.1 5 [some (vR h0), some (vR 24), some (vR h2), some (vR h3), some (vI x4), none] [vI 0, vR 25] (sh, I, L) (0, 0) ?_
  refine And.intro (mem1 (sk_25 hs)) ?_
  refine hK.1 8 [some (vR h0), some (vR 24), some (vR h2), some (vR h3), some (vI x4), none] [] (sh, (u2 I 25 3 0), L) (0, 0) ?_
  refine hK.1 9 [some (vR h0), some (vR 24), some (vR h2), some (vR h3), some (vI x4), none] [vI 0] (sh, (u2 I 25 3 0), L) (0, 0) ?_
  refine hK.2 [true, true, true, true, false, true] _ _ _ _ _ ?_
  exact k
set_option maxRecDepth 4000 in
theorem B_X10_pitch_11 {Q : oQ} {K : oK} (hK : oCl tb_X10_pitch Q K) {sh : oS} {I : Nat → Nat → Int} {L : Nat → Nat → Int64} {h0 : Nat} {h2 : Nat} {h3 : Nat} {x5 : Int} {h0p h0f h0t : Nat} (Ah0 : ToldAt sh h0 h0p h0f h0t) (n17a : inR x5) (n17b : inR (I h0 5)) (kt : I h0 5 ≤ x5 → K 56 [none, none, none, none, none, none] [] (sh, I, L) (0, 0)) (kf : ¬ (I h0 5 ≤ x5) → K 20 [some (vR h0), some (vR 24), some (vR h2), some (vR h3), none, some (vI x5)] [] (sh, I, L) (0, 0)) : K 11 [some (vR h0), some (vR 24), some (vR h2), some (vR h3), none, some (vI x5)] [] (sh, I, L) (0, 0) := by
  refine hK.1 11 [some (vR h0), some (vR 24), some (vR h2), some (vR h3), none, some (vI x5)] [] (sh, I, L) (0, 0) ?_
  refine hK.1 13 [some (vR h0), some (vR 24), some (vR h2), some (vR h3), none, some (vI x5)] [vI x5] (sh, I, L) (0, 0) ?_
  refine hK.1 14 [some (vR h0), some (vR 24), some (vR h2), some (vR h3), none, some (vI x5)] [vR h0, vI x5] (sh, I, L) (0, 0) ?_
  refine And.intro (mem1 Ah0.1) ?_
  refine hK.1 17 [some (vR h0), some (vR 24), some (vR h2), some (vR h3), none, some (vI x5)] [vI (I h0 5), vI x5] (sh, I, L) (0, 0) ?_
  exact And.intro (And.intro n17a n17b) (And.intro (fun h => hK.2 [false, false, false, false, false, false] _ _ _ _ _ (kt h)) (fun h => hK.2 [true, true, true, true, false, true] _ _ _ _ _ (kf h)))
set_option maxRecDepth 4000 in
theorem B_X10_pitch_20 {Q : oQ} {K : oK} (hK : oCl tb_X10_pitch Q K) {sh : oS} (hs : Sh sh) {I : Nat → Nat → Int} {L : Nat → Nat → Int64} {h0 : Nat} {h2 : Nat} {h3 : Nat} {x5 : Int} {h0p h0f h0t : Nat} (Ah0 : ToldAt sh h0 h0p h0f h0t) (b32 : 0 ≤ x5 ∧ x5 < 6) (k : T_X9_add [vR 25, vR h2, vR h3, vI (I h0p (x5.toNat)), vI (I h0f (x5.toNat)), vI (I h0t (x5.toNat))] (sh, I, L) (fun r mm => K 50 [some (vR h0), some (vR 24), some (vR h2), some (vR h3), none, some (vI x5)] (r.toList ++ []) mm (0, 0))) : K 20 [some (vR h0), some (vR 24), some (vR h2), some (vR h3), none, some (vI x5)] [] (sh, I, L) (0, 0) := by
  refine hK.1 20 [some (vR h0), some (vR 24), some (vR h2), some (vR h3), none, some (vI x5)] [] (sh, I, L) (0, 0) ?_
  refine hK.1 21 [some (vR h0), some (vR 24), some (vR h2), some (vR h3), none, some (vI x5)] [vR 24] (sh, I, L) (0, 0) ?_
  refine And.intro (mem1 (sk_24 hs)) (Exists.intro 25 (And.intro (sr_24_0 hs) ?_))
  refine hK.1 24 [some (vR h0), some (vR 24), some (vR h2), some (vR h3), none, some (vI x5)] [vR 25] (sh, I, L) (0, 0) ?_
  refine hK.1 25 [some (vR h0), some (vR 24), some (vR h2), some (vR h3), none, some (vI x5)] [vR h2, vR 25] (sh, I, L) (0, 0) ?_
  refine hK.1 26 [some (vR h0), some (vR 24), some (vR h2), some (vR h3), none, some (vI x5)] [vR h3, vR h2, vR 25] (sh, I, L) (0, 0) ?_
  refine hK.1 27 [some (vR h0), some (vR 24), some (vR h2), some (vR h3), none, some (vI x5)] [vR h0, vR h3, vR h2, vR 25] (sh, I, L) (0, 0) ?_
  refine And.intro (mem1 Ah0.1) (Exists.intro h0p (And.intro Ah0.2.1 ?_))
  refine hK.1 30 [some (vR h0), some (vR 24), some (vR h2), some (vR h3), none, some (vI x5)] [vR h0p, vR h3, vR h2, vR 25] (sh, I, L) (0, 0) ?_
  refine hK.1 32 [some (vR h0), some (vR 24), some (vR h2), some (vR h3), none, some (vI x5)] [vI x5, vR h0p, vR h3, vR h2, vR 25] (sh, I, L) (0, 0) ?_
  refine And.intro (And.intro (Ah0.2.2.2.2.1.1) (ixL (Ah0.2.2.2.2.1.2) b32)) ?_
  refine hK.1 33 [some (vR h0), some (vR 24), some (vR h2), some (vR h3), none, some (vI x5)] [vI (I h0p (x5.toNat)), vR h3, vR h2, vR 25] (sh, I, L) (0, 0) ?_
  refine hK.1 34 [some (vR h0), some (vR 24), some (vR h2), some (vR h3), none, some (vI x5)] [vR h0, vI (I h0p (x5.toNat)), vR h3, vR h2, vR 25] (sh, I, L) (0, 0) ?_
  refine And.intro (mem1 Ah0.1) (Exists.intro h0f (And.intro Ah0.2.2.1 ?_))
  refine hK.1 37 [some (vR h0), some (vR 24), some (vR h2), some (vR h3), none, some (vI x5)] [vR h0f, vI (I h0p (x5.toNat)), vR h3, vR h2, vR 25] (sh, I, L) (0, 0) ?_
  refine hK.1 39 [some (vR h0), some (vR 24), some (vR h2), some (vR h3), none, some (vI x5)] [vI x5, vR h0f, vI (I h0p (x5.toNat)), vR h3, vR h2, vR 25] (sh, I, L) (0, 0) ?_
  refine And.intro (And.intro (Ah0.2.2.2.2.2.1.1) (ixL (Ah0.2.2.2.2.2.1.2) b32)) ?_
  refine hK.1 40 [some (vR h0), some (vR 24), some (vR h2), some (vR h3), none, some (vI x5)] [vI (I h0f (x5.toNat)), vI (I h0p (x5.toNat)), vR h3, vR h2, vR 25] (sh, I, L) (0, 0) ?_
  refine hK.1 41 [some (vR h0), some (vR 24), some (vR h2), some (vR h3), none, some (vI x5)] [vR h0, vI (I h0f (x5.toNat)), vI (I h0p (x5.toNat)), vR h3, vR h2, vR 25] (sh, I, L) (0, 0) ?_
  refine And.intro (mem1 Ah0.1) (Exists.intro h0t (And.intro Ah0.2.2.2.1 ?_))
  refine hK.1 44 [some (vR h0), some (vR 24), some (vR h2), some (vR h3), none, some (vI x5)] [vR h0t, vI (I h0f (x5.toNat)), vI (I h0p (x5.toNat)), vR h3, vR h2, vR 25] (sh, I, L) (0, 0) ?_
  refine hK.1 46 [some (vR h0), some (vR 24), some (vR h2), some (vR h3), none, some (vI x5)] [vI x5, vR h0t, vI (I h0f (x5.toNat)), vI (I h0p (x5.toNat)), vR h3, vR h2, vR 25] (sh, I, L) (0, 0) ?_
  refine And.intro (And.intro (Ah0.2.2.2.2.2.2.1) (ixL (Ah0.2.2.2.2.2.2.2) b32)) ?_
  refine hK.1 47 [some (vR h0), some (vR 24), some (vR h2), some (vR h3), none, some (vI x5)] [vI (I h0t (x5.toNat)), vI (I h0f (x5.toNat)), vI (I h0p (x5.toNat)), vR h3, vR h2, vR 25] (sh, I, L) (0, 0) ?_
  exact And.intro ⟨(sk_25 hs), Nat.le_of_ble_eq_true rfl, Nat.le_of_ble_eq_true rfl, Nat.le_of_ble_eq_true rfl, Nat.le_of_ble_eq_true rfl⟩ k
set_option maxRecDepth 4000 in
theorem B_X10_pitch_50 {Q : oQ} {K : oK} (hK : oCl tb_X10_pitch Q K) {sh : oS} {I : Nat → Nat → Int} {L : Nat → Nat → Int64} {h0 : Nat} {h2 : Nat} {h3 : Nat} {x5 : Int} (k : K 11 [some (vR h0), some (vR 24), some (vR h2), some (vR h3), none, some (vI (x5 + 1))] [] (sh, I, L) (0, 0)) : K 50 [some (vR h0), some (vR 24), some (vR h2), some (vR h3), none, some (vI x5)] [] (sh, I, L) (0, 0) := by
  refine hK.1 50 [some (vR h0), some (vR 24), some (vR h2), some (vR h3), none, some (vI x5)] [] (sh, I, L) (0, 0) ?_
  refine hK.1 53 [some (vR h0), some (vR 24), some (vR h2), some (vR h3), none, some (vI (x5 + 1))] [] (sh, I, L) (0, 0) ?_
  exact k
set_option maxRecDepth 4000 in
theorem B_X10_pitch_56 {Q : oQ} {K : oK} (hK : oCl tb_X10_pitch Q K) {sh : oS} {I : Nat → Nat → Int} {L : Nat → Nat → Int64}  (k : Q none (sh, I, L)) : K 56 [none, none, none, none, none, none] [] (sh, I, L) (0, 0) := by
  refine hK.1 56 [none, none, none, none, none, none] [] (sh, I, L) (0, 0) ?_
  exact And.intro rfl (And.intro ⟨by decide, by decide⟩ k)
set_option maxRecDepth 4000 in
theorem B_X8_look_0 {Q : oQ} {K : oK} (hK : oCl tb_X8_look Q K) {sh : oS} (hs : Sh sh) {I : Nat → Nat → Int} {L : Nat → Nat → Int64}  (n4 : inR (I 1 2)) (kt : I 1 2 < 0 → K 30 [none] [] (sh, I, L) (0, 0)) (kf : ¬ (I 1 2 < 0) → K 7 [some (vR 1)] [] (sh, I, L) (0, 0)) : K 0 [some (vR 1)] [] (sh, I, L) (0, 0) := by
  refine hK.1 0 [some (vR 1)] [] (sh, I, L) (0, 0) ?_
  refine hK.1 1 [some (vR 1)] [vR 1] (sh, I, L) (0, 0) ?_
  refine And.intro (mem1 (sk_1 hs)) ?_
  refine hK.1 4 [some (vR 1)] [vI (I 1 2)] (sh, I, L) (0, 0) ?_
  exact And.intro (n4) (And.intro (fun h => hK.2 [false] _ _ _ _ _ (kt h)) (fun h => hK.2 [true] _ _ _ _ _ (kf h)))
set_option maxRecDepth 4000 in
theorem B_X8_look_7 {Q : oQ} {K : oK} (hK : oCl tb_X8_look Q K) {sh : oS} (hs : Sh sh) {I : Nat → Nat → Int} {L : Nat → Nat → Int64}  (n15a : inR (I 1 2)) (n15b : inR (I 1 1)) (kt : I 1 1 ≤ I 1 2 → K 30 [none] [] (sh, I, L) (0, 0)) (kf : ¬ (I 1 1 ≤ I 1 2) → K 18 [some (vR 1)] [] (sh, I, L) (0, 0)) : K 7 [some (vR 1)] [] (sh, I, L) (0, 0) := by
  refine hK.1 7 [some (vR 1)] [] (sh, I, L) (0, 0) ?_
  refine hK.1 8 [some (vR 1)] [vR 1] (sh, I, L) (0, 0) ?_
  refine And.intro (mem1 (sk_1 hs)) ?_
  refine hK.1 11 [some (vR 1)] [vI (I 1 2)] (sh, I, L) (0, 0) ?_
  refine hK.1 12 [some (vR 1)] [vR 1, vI (I 1 2)] (sh, I, L) (0, 0) ?_
  refine And.intro (mem1 (sk_1 hs)) ?_
  refine hK.1 15 [some (vR 1)] [vI (I 1 1), vI (I 1 2)] (sh, I, L) (0, 0) ?_
  exact And.intro (And.intro n15a n15b) (And.intro (fun h => hK.2 [false] _ _ _ _ _ (kt h)) (fun h => hK.2 [true] _ _ _ _ _ (kf h)))
set_option maxRecDepth 4000 in
theorem B_X8_look_18 {Q : oQ} {K : oK} (hK : oCl tb_X8_look Q K) {sh : oS} (hs : Sh sh) {I : Nat → Nat → Int} {L : Nat → Nat → Int64}  (b26 : 0 ≤ I 1 2 ∧ I 1 2 < 60) (k : K 31 [none] [vI (I 2 ((I 1 2).toNat))] (sh, I, L) (0, 0)) : K 18 [some (vR 1)] [] (sh, I, L) (0, 0) := by
  refine hK.1 18 [some (vR 1)] [] (sh, I, L) (0, 0) ?_
  refine hK.1 19 [some (vR 1)] [vR 1] (sh, I, L) (0, 0) ?_
  refine And.intro (mem1 (sk_1 hs)) (Exists.intro 2 (And.intro (sr_1_0 hs) ?_))
  refine hK.1 22 [some (vR 1)] [vR 2] (sh, I, L) (0, 0) ?_
  refine hK.1 23 [some (vR 1)] [vR 1, vR 2] (sh, I, L) (0, 0) ?_
  refine And.intro (mem1 (sk_1 hs)) ?_
  refine hK.1 26 [some (vR 1)] [vI (I 1 2), vR 2] (sh, I, L) (0, 0) ?_
  refine And.intro (And.intro (sk_2 hs) (ixL (sl_2 hs) b26)) ?_
  refine hK.1 27 [some (vR 1)] [vI (I 2 ((I 1 2).toNat))] (sh, I, L) (0, 0) ?_
  refine hK.2 [false] _ _ _ _ _ ?_
  exact k
set_option maxRecDepth 4000 in
theorem B_X8_look_30 {Q : oQ} {K : oK} (hK : oCl tb_X8_look Q K) {sh : oS} {I : Nat → Nat → Int} {L : Nat → Nat → Int64}  (k : K 31 [none] [vI 0] (sh, I, L) (0, 0)) : K 30 [none] [] (sh, I, L) (0, 0) := by
  refine hK.1 30 [none] [] (sh, I, L) (0, 0) ?_
  exact k
set_option maxRecDepth 4000 in
theorem B_X8_look_31 {Q : oQ} {K : oK} (hK : oCl tb_X8_look Q K) {sh : oS} {I : Nat → Nat → Int} {L : Nat → Nat → Int64} {s0 : Int} (k : Q (some (vI s0)) (sh, I, L)) : K 31 [none] [vI s0] (sh, I, L) (0, 0) := by
  refine hK.1 31 [none] [vI s0] (sh, I, L) (0, 0) ?_
  exact And.intro ⟨by decide, by decide⟩ k
set_option maxRecDepth 4000 in
theorem B_X8_take_0 {Q : oQ} {K : oK} (hK : oCl tb_X8_take Q K) {sh : oS} (hs : Sh sh) {I : Nat → Nat → Int} {L : Nat → Nat → Int64} {x1 : Int} (k : T_X8_look [vR 1] (sh, I, L) (fun r mm => K 4 [some (vR 1), some (vI x1)] (r.toList ++ []) mm (0, 0))) : K 0 [some (vR 1), some (vI x1)] [] (sh, I, L) (0, 0) := by
  refine hK.1 0 [some (vR 1), some (vI x1)] [] (sh, I, L) (0, 0) ?_
  refine hK.1 1 [some (vR 1), some (vI x1)] [vR 1] (sh, I, L) (0, 0) ?_
  exact And.intro ⟨(sk_1 hs), Nat.le_of_ble_eq_true rfl, Nat.le_of_ble_eq_true rfl, Nat.le_of_ble_eq_true rfl, Nat.le_of_ble_eq_true rfl⟩ k
set_option maxRecDepth 4000 in
theorem B_X8_take_4 {Q : oQ} {K : oK} (hK : oCl tb_X8_take Q K) {sh : oS} {I : Nat → Nat → Int} {L : Nat → Nat → Int64} {x1 : Int} {s0 : Int} (n5a : inR s0) (n5b : inR x1) (kt : s0 = x1 → K 10 [some (vR 1), none] [] (sh, I, L) (0, 0)) (kf : ¬ (s0 = x1) → K 8 [none, none] [] (sh, I, L) (0, 0)) : K 4 [some (vR 1), some (vI x1)] [vI s0] (sh, I, L) (0, 0) := by
  refine hK.1 4 [some (vR 1), some (vI x1)] [vI s0] (sh, I, L) (0, 0) ?_
  refine hK.1 5 [some (vR 1), some (vI x1)] [vI x1, vI s0] (sh, I, L) (0, 0) ?_
  exact And.intro (And.intro n5a n5b) (And.intro (fun h => hK.2 [true, false] _ _ _ _ _ (kt h)) (fun h => hK.2 [false, false] _ _ _ _ _ (kf h)))
set_option maxRecDepth 4000 in
theorem B_X8_take_8 {Q : oQ} {K : oK} (hK : oCl tb_X8_take Q K) {sh : oS} {I : Nat → Nat → Int} {L : Nat → Nat → Int64}  (k : Q (some (vI 0)) (sh, I, L)) : K 8 [none, none] [] (sh, I, L) (0, 0) := by
  refine hK.1 8 [none, none] [] (sh, I, L) (0, 0) ?_
  refine hK.1 9 [none, none] [vI 0] (sh, I, L) (0, 0) ?_
  exact And.intro ⟨by decide, by decide, by decide⟩ k
set_option maxRecDepth 4000 in
theorem B_X8_take_10 {Q : oQ} {K : oK} (hK : oCl tb_X8_take Q K) {sh : oS} (hs : Sh sh) {I : Nat → Nat → Int} {L : Nat → Nat → Int64}  (k : Q (some (vI 1)) (sh, (u2 I 1 2 ((I 1 2) + 1)), L)) : K 10 [some (vR 1), none] [] (sh, I, L) (0, 0) := by
  refine hK.1 10 [some (vR 1), none] [] (sh, I, L) (0, 0) ?_
  refine hK.1 11 [some (vR 1), none] [vR 1] (sh, I, L) (0, 0) ?_
  refine hK.1 12 [some (vR 1), none] [vR 1, vR 1] (sh, I, L) (0, 0) ?_
  refine And.intro (mem1 (sk_1 hs)) ?_
  refine hK.1 15 [some (vR 1), none] [vI (I 1 2), vR 1] (sh, I, L) (0, 0) ?_
  refine hK.1 16 [some (vR 1), none] [vI 1, vI (I 1 2), vR 1] (sh, I, L) (0, 0) ?_
  refine hK.1 17 [some (vR 1), none] [vI ((I 1 2) + 1), vR 1] (sh, I, L) (0, 0) ?_
  refine And.intro (mem1 (sk_1 hs)) ?_
  refine hK.1 20 [some (vR 1), none] [] (sh, (u2 I 1 2 ((I 1 2) + 1)), L) (0, 0) ?_
  refine hK.1 21 [some (vR 1), none] [vI 1] (sh, (u2 I 1 2 ((I 1 2) + 1)), L) (0, 0) ?_
  exact And.intro ⟨by decide, by decide, by decide⟩ k
set_option maxRecDepth 4000 in
theorem B_X8_digit_0 {Q : oQ} {K : oK} (hK : oCl tb_X8_digit Q K) {sh : oS} (hs : Sh sh) {I : Nat → Nat → Int} {L : Nat → Nat → Int64} {x1 : Int} {x2 : Int} (k : T_X8_look [vR 1] (sh, I, L) (fun r mm => K 4 [some (vR 1), some (vI x1), some (vI x2), none] (r.toList ++ []) mm (0, 0))) : K 0 [some (vR 1), some (vI x1), some (vI x2), none] [] (sh, I, L) (0, 0) := by
  refine hK.1 0 [some (vR 1), some (vI x1), some (vI x2), none] [] (sh, I, L) (0, 0) ?_
  refine hK.1 1 [some (vR 1), some (vI x1), some (vI x2), none] [vR 1] (sh, I, L) (0, 0) ?_
  exact And.intro ⟨(sk_1 hs), Nat.le_of_ble_eq_true rfl, Nat.le_of_ble_eq_true rfl, Nat.le_of_ble_eq_true rfl, Nat.le_of_ble_eq_true rfl⟩ k
set_option maxRecDepth 4000 in
theorem B_X8_digit_4 {Q : oQ} {K : oK} (hK : oCl tb_X8_digit Q K) {sh : oS} {I : Nat → Nat → Int} {L : Nat → Nat → Int64} {x1 : Int} {x2 : Int} {s0 : Int} (n10a : inR (s0 - 48)) (n10b : inR x1) (kt : s0 - 48 < x1 → K 18 [none, none, none, none] [] (sh, I, L) (0, 0)) (kf : ¬ (s0 - 48 < x1) → K 13 [some (vR 1), none, some (vI x2), some (vI (s0 - 48))] [] (sh, I, L) (0, 0)) : K 4 [some (vR 1), some (vI x1), some (vI x2), none] [vI s0] (sh, I, L) (0, 0) := by
  refine hK.1 4 [some (vR 1), some (vI x1), some (vI x2), none] [vI s0] (sh, I, L) (0, 0) ?_
  refine hK.1 6 [some (vR 1), some (vI x1), some (vI x2), none] [vI 48, vI s0] (sh, I, L) (0, 0) ?_
  refine hK.1 7 [some (vR 1), some (vI x1), some (vI x2), none] [vI (s0 - 48)] (sh, I, L) (0, 0) ?_
  refine hK.1 8 [some (vR 1), some (vI x1), some (vI x2), some (vI (s0 - 48))] [] (sh, I, L) (0, 0) ?_
  refine hK.1 9 [some (vR 1), some (vI x1), some (vI x2), some (vI (s0 - 48))] [vI (s0 - 48)] (sh, I, L) (0, 0) ?_
  refine hK.1 10 [some (vR 1), some (vI x1), some (vI x2), some (vI (s0 - 48))] [vI x1, vI (s0 - 48)] (sh, I, L) (0, 0) ?_
  exact And.intro (And.intro n10a n10b) (And.intro (fun h => hK.2 [false, false, false, false] _ _ _ _ _ (kt h)) (fun h => hK.2 [true, false, true, true] _ _ _ _ _ (kf h)))
set_option maxRecDepth 4000 in
theorem B_X8_digit_13 {Q : oQ} {K : oK} (hK : oCl tb_X8_digit Q K) {sh : oS} {I : Nat → Nat → Int} {L : Nat → Nat → Int64} {x2 : Int} {x3 : Int} (n15a : inR x3) (n15b : inR x2) (kt : x3 ≤ x2 → K 20 [some (vR 1), none, none, some (vI x3)] [] (sh, I, L) (0, 0)) (kf : ¬ (x3 ≤ x2) → K 18 [none, none, none, none] [] (sh, I, L) (0, 0)) : K 13 [some (vR 1), none, some (vI x2), some (vI x3)] [] (sh, I, L) (0, 0) := by
  refine hK.1 13 [some (vR 1), none, some (vI x2), some (vI x3)] [] (sh, I, L) (0, 0) ?_
  refine hK.1 14 [some (vR 1), none, some (vI x2), some (vI x3)] [vI x3] (sh, I, L) (0, 0) ?_
  refine hK.1 15 [some (vR 1), none, some (vI x2), some (vI x3)] [vI x2, vI x3] (sh, I, L) (0, 0) ?_
  exact And.intro (And.intro n15a n15b) (And.intro (fun h => hK.2 [true, false, false, true] _ _ _ _ _ (kt h)) (fun h => hK.2 [false, false, false, false] _ _ _ _ _ (kf h)))
set_option maxRecDepth 4000 in
theorem B_X8_digit_18 {Q : oQ} {K : oK} (hK : oCl tb_X8_digit Q K) {sh : oS} {I : Nat → Nat → Int} {L : Nat → Nat → Int64}  (k : Q (some (vI (-1))) (sh, I, L)) : K 18 [none, none, none, none] [] (sh, I, L) (0, 0) := by
  refine hK.1 18 [none, none, none, none] [] (sh, I, L) (0, 0) ?_
  refine hK.1 19 [none, none, none, none] [vI (-1)] (sh, I, L) (0, 0) ?_
  exact And.intro ⟨by decide, by decide⟩ k
set_option maxRecDepth 4000 in
theorem B_X8_digit_20 {Q : oQ} {K : oK} (hK : oCl tb_X8_digit Q K) {sh : oS} (hs : Sh sh) {I : Nat → Nat → Int} {L : Nat → Nat → Int64} {x3 : Int} (k : Q (some (vI x3)) (sh, (u2 I 1 2 ((I 1 2) + 1)), L)) : K 20 [some (vR 1), none, none, some (vI x3)] [] (sh, I, L) (0, 0) := by
  refine hK.1 20 [some (vR 1), none, none, some (vI x3)] [] (sh, I, L) (0, 0) ?_
  refine hK.1 21 [some (vR 1), none, none, some (vI x3)] [vR 1] (sh, I, L) (0, 0) ?_
  refine hK.1 22 [some (vR 1), none, none, some (vI x3)] [vR 1, vR 1] (sh, I, L) (0, 0) ?_
  refine And.intro (mem1 (sk_1 hs)) ?_
  refine hK.1 25 [some (vR 1), none, none, some (vI x3)] [vI (I 1 2), vR 1] (sh, I, L) (0, 0) ?_
  refine hK.1 26 [some (vR 1), none, none, some (vI x3)] [vI 1, vI (I 1 2), vR 1] (sh, I, L) (0, 0) ?_
  refine hK.1 27 [some (vR 1), none, none, some (vI x3)] [vI ((I 1 2) + 1), vR 1] (sh, I, L) (0, 0) ?_
  refine And.intro (mem1 (sk_1 hs)) ?_
  refine hK.1 30 [some (vR 1), none, none, some (vI x3)] [] (sh, (u2 I 1 2 ((I 1 2) + 1)), L) (0, 0) ?_
  refine hK.1 31 [some (vR 1), none, none, some (vI x3)] [vI x3] (sh, (u2 I 1 2 ((I 1 2) + 1)), L) (0, 0) ?_
  exact And.intro ⟨by decide, by decide⟩ k
set_option maxRecDepth 4000 in
theorem B_X8_number_0 {Q : oQ} {K : oK} (hK : oCl tb_X8_number Q K) {sh : oS} (hs : Sh sh) {I : Nat → Nat → Int} {L : Nat → Nat → Int64} {x1 : Int} {x2 : Int} (k : T_X8_digit [vR 1, vI x1, vI 9] (sh, I, L) (fun r mm => K 7 [some (vR 1), none, some (vI x2), none, none, none] (r.toList ++ []) mm (0, 0))) : K 0 [some (vR 1), some (vI x1), some (vI x2), none, none, none] [] (sh, I, L) (0, 0) := by
  refine hK.1 0 [some (vR 1), some (vI x1), some (vI x2), none, none, none] [] (sh, I, L) (0, 0) ?_
  refine hK.1 1 [some (vR 1), some (vI x1), some (vI x2), none, none, none] [vR 1] (sh, I, L) (0, 0) ?_
  refine hK.1 2 [some (vR 1), some (vI x1), some (vI x2), none, none, none] [vI x1, vR 1] (sh, I, L) (0, 0) ?_
  refine hK.2 [true, false, true, false, false, false] _ _ _ _ _ ?_
  refine hK.1 4 [some (vR 1), none, some (vI x2), none, none, none] [vI 9, vI x1, vR 1] (sh, I, L) (0, 0) ?_
  exact And.intro ⟨(sk_1 hs), Nat.le_of_ble_eq_true rfl, Nat.le_of_ble_eq_true rfl, Nat.le_of_ble_eq_true rfl, Nat.le_of_ble_eq_true rfl⟩ k
set_option maxRecDepth 4000 in
theorem B_X8_number_7 {Q : oQ} {K : oK} (hK : oCl tb_X8_number Q K) {sh : oS} {I : Nat → Nat → Int} {L : Nat → Nat → Int64} {x2 : Int} {s0 : Int} (k : K 11 [some (vR 1), none, some (vI x2), some (vI s0), some (vI 1), none] [] (sh, I, L) (0, 0)) : K 7 [some (vR 1), none, some (vI x2), none, none, none] [vI s0] (sh, I, L) (0, 0) := by
  refine hK.1 7 [some (vR 1), none, some (vI x2), none, none, none] [vI s0] (sh, I, L) (0, 0) ?_
  refine hK.1 8 [some (vR 1), none, some (vI x2), some (vI s0), none, none] [] (sh, I, L) (0, 0) ?_
  refine hK.1 9 [some (vR 1), none, some (vI x2), some (vI s0), none, none] [vI 1] (sh, I, L) (0, 0) ?_
  exact k
set_option maxRecDepth 4000 in
theorem B_X8_number_11 {Q : oQ} {K : oK} (hK : oCl tb_X8_number Q K) {sh : oS} {I : Nat → Nat → Int} {L : Nat → Nat → Int64} {x2 : Int} {x3 : Int} {x4 : Int} (n14a : inR x4) (n14b : inR x2) (kt : x2 ≤ x4 → K 51 [none, none, none, some (vI x3), none, none] [] (sh, I, L) (0, 0)) (kf : ¬ (x2 ≤ x4) → K 17 [some (vR 1), none, some (vI x2), some (vI x3), some (vI x4), none] [] (sh, I, L) (0, 0)) : K 11 [some (vR 1), none, some (vI x2), some (vI x3), some (vI x4), none] [] (sh, I, L) (0, 0) := by
  refine hK.1 11 [some (vR 1), none, some (vI x2), some (vI x3), some (vI x4), none] [] (sh, I, L) (0, 0) ?_
  refine hK.1 13 [some (vR 1), none, some (vI x2), some (vI x3), some (vI x4), none] [vI x4] (sh, I, L) (0, 0) ?_
  refine hK.1 14 [some (vR 1), none, some (vI x2), some (vI x3), some (vI x4), none] [vI x2, vI x4] (sh, I, L) (0, 0) ?_
  exact And.intro (And.intro n14a n14b) (And.intro (fun h => hK.2 [false, false, false, true, false, false] _ _ _ _ _ (kt h)) (fun h => hK.2 [true, false, true, true, true, false] _ _ _ _ _ (kf h)))
set_option maxRecDepth 4000 in
theorem B_X8_number_17 {Q : oQ} {K : oK} (hK : oCl tb_X8_number Q K) {sh : oS} {I : Nat → Nat → Int} {L : Nat → Nat → Int64} {x2 : Int} {x3 : Int} {x4 : Int} (n18 : inR x3) (kt : x3 < 0 → K 51 [none, none, none, some (vI x3), none, none] [] (sh, I, L) (0, 0)) (kf : ¬ (x3 < 0) → K 21 [some (vR 1), none, some (vI x2), some (vI x3), some (vI x4), none] [] (sh, I, L) (0, 0)) : K 17 [some (vR 1), none, some (vI x2), some (vI x3), some (vI x4), none] [] (sh, I, L) (0, 0) := by
  refine hK.1 17 [some (vR 1), none, some (vI x2), some (vI x3), some (vI x4), none] [] (sh, I, L) (0, 0) ?_
  refine hK.1 18 [some (vR 1), none, some (vI x2), some (vI x3), some (vI x4), none] [vI x3] (sh, I, L) (0, 0) ?_
  exact And.intro (n18) (And.intro (fun h => hK.2 [false, false, false, true, false, false] _ _ _ _ _ (kt h)) (fun h => hK.2 [true, false, true, true, true, false] _ _ _ _ _ (kf h)))
set_option maxRecDepth 4000 in
theorem B_X8_number_21 {Q : oQ} {K : oK} (hK : oCl tb_X8_number Q K) {sh : oS} (hs : Sh sh) {I : Nat → Nat → Int} {L : Nat → Nat → Int64} {x2 : Int} {x3 : Int} {x4 : Int} (k : T_X8_digit [vR 1, vI 0, vI 9] (sh, I, L) (fun r mm => K 28 [some (vR 1), none, some (vI x2), some (vI x3), some (vI x4), none] (r.toList ++ []) mm (0, 0))) : K 21 [some (vR 1), none, some (vI x2), some (vI x3), some (vI x4), none] [] (sh, I, L) (0, 0) := by
  refine hK.1 21 [some (vR 1), none, some (vI x2), some (vI x3), some (vI x4), none] [] (sh, I, L) (0, 0) ?_
  refine hK.1 22 [some (vR 1), none, some (vI x2), some (vI x3), some (vI x4), none] [vR 1] (sh, I, L) (0, 0) ?_
  refine hK.1 23 [some (vR 1), none, some (vI x2), some (vI x3), some (vI x4), none] [vI 0, vR 1] (sh, I, L) (0, 0) ?_
  refine hK.1 25 [some (vR 1), none, some (vI x2), some (vI x3), some (vI x4), none] [vI 9, vI 0, vR 1] (sh, I, L) (0, 0) ?_
  exact And.intro ⟨(sk_1 hs), Nat.le_of_ble_eq_true rfl, Nat.le_of_ble_eq_true rfl, Nat.le_of_ble_eq_true rfl, Nat.le_of_ble_eq_true rfl⟩ k
set_option maxRecDepth 4000 in
theorem B_X8_number_28 {Q : oQ} {K : oK} (hK : oCl tb_X8_number Q K) {sh : oS} {I : Nat → Nat → Int} {L : Nat → Nat → Int64} {x2 : Int} {x3 : Int} {x4 : Int} {s0 : Int} (n32 : inR s0) (kt : 0 ≤ s0 → K 37 [some (vR 1), none, some (vI x2), some (vI x3), some (vI x4), some (vI s0)] [] (sh, I, L) (0, 0)) (kf : ¬ (0 ≤ s0) → K 35 [none, none, none, some (vI x3), none, none] [] (sh, I, L) (0, 0)) : K 28 [some (vR 1), none, some (vI x2), some (vI x3), some (vI x4), none] [vI s0] (sh, I, L) (0, 0) := by
  refine hK.1 28 [some (vR 1), none, some (vI x2), some (vI x3), some (vI x4), none] [vI s0] (sh, I, L) (0, 0) ?_
  refine hK.1 30 [some (vR 1), none, some (vI x2), some (vI x3), some (vI x4), some (vI s0)] [] (sh, I, L) (0, 0) ?_
  refine hK.1 32 [some (vR 1), none, some (vI x2), some (vI x3), some (vI x4), some (vI s0)] [vI s0] (sh, I, L) (0, 0) ?_
  exact And.intro (n32) (And.intro (fun h => hK.2 [true, false, true, true, true, true] _ _ _ _ _ (kt h)) (fun h => hK.2 [false, false, false, true, false, false] _ _ _ _ _ (kf h)))
set_option maxRecDepth 4000 in
theorem B_X8_number_35 {Q : oQ} {K : oK} (hK : oCl tb_X8_number Q K) {sh : oS} {I : Nat → Nat → Int} {L : Nat → Nat → Int64} {x3 : Int} (k : Q (some (vI x3)) (sh, I, L)) : K 35 [none, none, none, some (vI x3), none, none] [] (sh, I, L) (0, 0) := by
  refine hK.1 35 [none, none, none, some (vI x3), none, none] [] (sh, I, L) (0, 0) ?_
  refine hK.1 36 [none, none, none, some (vI x3), none, none] [vI x3] (sh, I, L) (0, 0) ?_
  exact And.intro ⟨by decide, by decide⟩ k
set_option maxRecDepth 4000 in
theorem B_X8_number_37 {Q : oQ} {K : oK} (hK : oCl tb_X8_number Q K) {sh : oS} {I : Nat → Nat → Int} {L : Nat → Nat → Int64} {x2 : Int} {x3 : Int} {x4 : Int} {x5 : Int} (k : K 11 [some (vR 1), none, some (vI x2), some (vI ((10 * x3) + x5)), some (vI (x4 + 1)), none] [] (sh, I, L) (0, 0)) : K 37 [some (vR 1), none, some (vI x2), some (vI x3), some (vI x4), some (vI x5)] [] (sh, I, L) (0, 0) := by
  refine hK.1 37 [some (vR 1), none, some (vI x2), some (vI x3), some (vI x4), some (vI x5)] [] (sh, I, L) (0, 0) ?_
  refine hK.1 39 [some (vR 1), none, some (vI x2), some (vI x3), some (vI x4), some (vI x5)] [vI 10] (sh, I, L) (0, 0) ?_
  refine hK.1 40 [some (vR 1), none, some (vI x2), some (vI x3), some (vI x4), some (vI x5)] [vI x3, vI 10] (sh, I, L) (0, 0) ?_
  refine hK.1 41 [some (vR 1), none, some (vI x2), some (vI x3), some (vI x4), some (vI x5)] [vI (10 * x3)] (sh, I, L) (0, 0) ?_
  refine hK.1 43 [some (vR 1), none, some (vI x2), some (vI x3), some (vI x4), some (vI x5)] [vI x5, vI (10 * x3)] (sh, I, L) (0, 0) ?_
  refine hK.1 44 [some (vR 1), none, some (vI x2), some (vI x3), some (vI x4), some (vI x5)] [vI ((10 * x3) + x5)] (sh, I, L) (0, 0) ?_
  refine hK.1 45 [some (vR 1), none, some (vI x2), some (vI ((10 * x3) + x5)), some (vI x4), some (vI x5)] [] (sh, I, L) (0, 0) ?_
  refine hK.1 48 [some (vR 1), none, some (vI x2), some (vI ((10 * x3) + x5)), some (vI (x4 + 1)), some (vI x5)] [] (sh, I, L) (0, 0) ?_
  refine hK.2 [true, false, true, true, true, false] _ _ _ _ _ ?_
  exact k
set_option maxRecDepth 4000 in
theorem B_X8_number_51 {Q : oQ} {K : oK} (hK : oCl tb_X8_number Q K) {sh : oS} {I : Nat → Nat → Int} {L : Nat → Nat → Int64} {x3 : Int} (k : Q (some (vI x3)) (sh, I, L)) : K 51 [none, none, none, some (vI x3), none, none] [] (sh, I, L) (0, 0) := by
  refine hK.1 51 [none, none, none, some (vI x3), none, none] [] (sh, I, L) (0, 0) ?_
  refine hK.1 52 [none, none, none, some (vI x3), none, none] [vI x3] (sh, I, L) (0, 0) ?_
  exact And.intro ⟨by decide, by decide⟩ k
set_option maxRecDepth 4000 in
theorem B_X10_readStand_0 {Q : oQ} {K : oK} (hK : oCl tb_X10_readStand Q K) {sh : oS} (hs : Sh sh) {I : Nat → Nat → Int} {L : Nat → Nat → Int64} {h0 : Nat} {x2 : Int} {h0p h0f h0t : Nat} (Ah0 : ToldAt sh h0 h0p h0f h0t) (k : T_X8_digit [vR 1, vI 0, vI 7] (sh, I, L) (fun r mm => K 12 [some (vR h0), some (vR 1), some (vI x2)] (r.toList ++ [vI x2, vR h0p]) mm (0, 0))) : K 0 [some (vR h0), some (vR 1), some (vI x2)] [] (sh, I, L) (0, 0) := by
  refine hK.1 0 [some (vR h0), some (vR 1), some (vI x2)] [] (sh, I, L) (0, 0) ?_
  refine hK.1 1 [some (vR h0), some (vR 1), some (vI x2)] [vR h0] (sh, I, L) (0, 0) ?_
  refine And.intro (mem1 Ah0.1) (Exists.intro h0p (And.intro Ah0.2.1 ?_))
  refine hK.1 4 [some (vR h0), some (vR 1), some (vI x2)] [vR h0p] (sh, I, L) (0, 0) ?_
  refine hK.1 5 [some (vR h0), some (vR 1), some (vI x2)] [vI x2, vR h0p] (sh, I, L) (0, 0) ?_
  refine hK.1 6 [some (vR h0), some (vR 1), some (vI x2)] [vR 1, vI x2, vR h0p] (sh, I, L) (0, 0) ?_
  refine hK.1 7 [some (vR h0), some (vR 1), some (vI x2)] [vI 0, vR 1, vI x2, vR h0p] (sh, I, L) (0, 0) ?_
  refine hK.1 9 [some (vR h0), some (vR 1), some (vI x2)] [vI 7, vI 0, vR 1, vI x2, vR h0p] (sh, I, L) (0, 0) ?_
  exact And.intro ⟨(sk_1 hs), Nat.le_of_ble_eq_true rfl, Nat.le_of_ble_eq_true rfl, Nat.le_of_ble_eq_true rfl, Nat.le_of_ble_eq_true rfl⟩ k
set_option maxRecDepth 4000 in
theorem B_X10_readStand_12 {Q : oQ} {K : oK} (hK : oCl tb_X10_readStand Q K) {sh : oS} {I : Nat → Nat → Int} {L : Nat → Nat → Int64} {h0 : Nat} {x2 : Int} {s0 : Nat} {s1 : Int} {s2 : Int} {h0p h0f h0t : Nat} (ks0 : sK sh s0 = 13) (b12 : 0 ≤ s1 ∧ s1 < (sL sh s0 : Int)) (Ah0 : ToldAt sh h0 h0p h0f h0t) (b18 : 0 ≤ x2 ∧ x2 < 6) (n19 : inR ((u2 I s0 (s1.toNat) s2) h0p (x2.toNat))) (kt : (u2 I s0 (s1.toNat) s2) h0p (x2.toNat) < 0 → K 31 [none, none, none] [] (sh, (u2 I s0 (s1.toNat) s2), L) (0, 0)) (kf : ¬ ((u2 I s0 (s1.toNat) s2) h0p (x2.toNat) < 0) → K 22 [some (vR h0), some (vR 1), some (vI x2)] [] (sh, (u2 I s0 (s1.toNat) s2), L) (0, 0)) : K 12 [some (vR h0), some (vR 1), some (vI x2)] [vI s2, vI s1, vR s0] (sh, I, L) (0, 0) := by
  refine hK.1 12 [some (vR h0), some (vR 1), some (vI x2)] [vI s2, vI s1, vR s0] (sh, I, L) (0, 0) ?_
  refine And.intro (And.intro (ks0) b12) ?_
  refine hK.1 13 [some (vR h0), some (vR 1), some (vI x2)] [] (sh, (u2 I s0 (s1.toNat) s2), L) (0, 0) ?_
  refine hK.1 14 [some (vR h0), some (vR 1), some (vI x2)] [vR h0] (sh, (u2 I s0 (s1.toNat) s2), L) (0, 0) ?_
  refine And.intro (mem1 Ah0.1) (Exists.intro h0p (And.intro Ah0.2.1 ?_))
  refine hK.1 17 [some (vR h0), some (vR 1), some (vI x2)] [vR h0p] (sh, (u2 I s0 (s1.toNat) s2), L) (0, 0) ?_
  refine hK.1 18 [some (vR h0), some (vR 1), some (vI x2)] [vI x2, vR h0p] (sh, (u2 I s0 (s1.toNat) s2), L) (0, 0) ?_
  refine And.intro (And.intro (Ah0.2.2.2.2.1.1) (ixL (Ah0.2.2.2.2.1.2) b18)) ?_
  refine hK.1 19 [some (vR h0), some (vR 1), some (vI x2)] [vI ((u2 I s0 (s1.toNat) s2) h0p (x2.toNat))] (sh, (u2 I s0 (s1.toNat) s2), L) (0, 0) ?_
  exact And.intro (n19) (And.intro (fun h => hK.2 [false, false, false] _ _ _ _ _ (kt h)) (fun h => hK.2 [true, true, true] _ _ _ _ _ (kf h)))
set_option maxRecDepth 4000 in
theorem B_X10_readStand_22 {Q : oQ} {K : oK} (hK : oCl tb_X10_readStand Q K) {sh : oS} (hs : Sh sh) {I : Nat → Nat → Int} {L : Nat → Nat → Int64} {h0 : Nat} {x2 : Int} (k : T_X8_take [vR 1, vI 100] (sh, I, L) (fun r mm => K 28 [some (vR h0), some (vR 1), some (vI x2)] (r.toList ++ []) mm (0, 0))) : K 22 [some (vR h0), some (vR 1), some (vI x2)] [] (sh, I, L) (0, 0) := by
  refine hK.1 22 [some (vR h0), some (vR 1), some (vI x2)] [] (sh, I, L) (0, 0) ?_
  refine hK.1 23 [some (vR h0), some (vR 1), some (vI x2)] [vR 1] (sh, I, L) (0, 0) ?_
  refine hK.1 25 [some (vR h0), some (vR 1), some (vI x2)] [vI 100, vR 1] (sh, I, L) (0, 0) ?_
  exact And.intro ⟨(sk_1 hs), Nat.le_of_ble_eq_true rfl, Nat.le_of_ble_eq_true rfl, Nat.le_of_ble_eq_true rfl, Nat.le_of_ble_eq_true rfl⟩ k
set_option maxRecDepth 4000 in
theorem B_X10_readStand_28 {Q : oQ} {K : oK} (hK : oCl tb_X10_readStand Q K) {sh : oS} {I : Nat → Nat → Int} {L : Nat → Nat → Int64} {h0 : Nat} {x2 : Int} {s0 : Int} (n28 : inR s0) (kt : ¬ s0 = 0 → K 33 [some (vR h0), some (vR 1), some (vI x2)] [] (sh, I, L) (0, 0)) (kf : ¬ (¬ s0 = 0) → K 31 [none, none, none] [] (sh, I, L) (0, 0)) : K 28 [some (vR h0), some (vR 1), some (vI x2)] [vI s0] (sh, I, L) (0, 0) := by
  refine hK.1 28 [some (vR h0), some (vR 1), some (vI x2)] [vI s0] (sh, I, L) (0, 0) ?_
  exact And.intro (n28) (And.intro (fun h => hK.2 [true, true, true] _ _ _ _ _ (kt h)) (fun h => hK.2 [false, false, false] _ _ _ _ _ (kf h)))
set_option maxRecDepth 4000 in
theorem B_X10_readStand_31 {Q : oQ} {K : oK} (hK : oCl tb_X10_readStand Q K) {sh : oS} {I : Nat → Nat → Int} {L : Nat → Nat → Int64}  (k : Q (some (vI 0)) (sh, I, L)) : K 31 [none, none, none] [] (sh, I, L) (0, 0) := by
  refine hK.1 31 [none, none, none] [] (sh, I, L) (0, 0) ?_
  refine hK.1 32 [none, none, none] [vI 0] (sh, I, L) (0, 0) ?_
  exact And.intro ⟨by decide, by decide, by decide⟩ k
set_option maxRecDepth 4000 in
theorem B_X10_readStand_33 {Q : oQ} {K : oK} (hK : oCl tb_X10_readStand Q K) {sh : oS} (hs : Sh sh) {I : Nat → Nat → Int} {L : Nat → Nat → Int64} {h0 : Nat} {x2 : Int} {h0p h0f h0t : Nat} (Ah0 : ToldAt sh h0 h0p h0f h0t) (k : T_X8_number [vR 1, vI 0, vI 2] (sh, I, L) (fun r mm => K 44 [some (vR h0), some (vR 1), some (vI x2)] (r.toList ++ [vI x2, vR h0f]) mm (0, 0))) : K 33 [some (vR h0), some (vR 1), some (vI x2)] [] (sh, I, L) (0, 0) := by
  refine hK.1 33 [some (vR h0), some (vR 1), some (vI x2)] [] (sh, I, L) (0, 0) ?_
  refine hK.1 34 [some (vR h0), some (vR 1), some (vI x2)] [vR h0] (sh, I, L) (0, 0) ?_
  refine And.intro (mem1 Ah0.1) (Exists.intro h0f (And.intro Ah0.2.2.1 ?_))
  refine hK.1 37 [some (vR h0), some (vR 1), some (vI x2)] [vR h0f] (sh, I, L) (0, 0) ?_
  refine hK.1 38 [some (vR h0), some (vR 1), some (vI x2)] [vI x2, vR h0f] (sh, I, L) (0, 0) ?_
  refine hK.1 39 [some (vR h0), some (vR 1), some (vI x2)] [vR 1, vI x2, vR h0f] (sh, I, L) (0, 0) ?_
  refine hK.1 40 [some (vR h0), some (vR 1), some (vI x2)] [vI 0, vR 1, vI x2, vR h0f] (sh, I, L) (0, 0) ?_
  refine hK.1 41 [some (vR h0), some (vR 1), some (vI x2)] [vI 2, vI 0, vR 1, vI x2, vR h0f] (sh, I, L) (0, 0) ?_
  exact And.intro ⟨(sk_1 hs), Nat.le_of_ble_eq_true rfl, Nat.le_of_ble_eq_true rfl, Nat.le_of_ble_eq_true rfl, Nat.le_of_ble_eq_true rfl⟩ k
set_option maxRecDepth 4000 in
theorem B_X10_readStand_44 {Q : oQ} {K : oK} (hK : oCl tb_X10_readStand Q K) {sh : oS} {I : Nat → Nat → Int} {L : Nat → Nat → Int64} {h0 : Nat} {x2 : Int} {s0 : Nat} {s1 : Int} {s2 : Int} {h0p h0f h0t : Nat} (ks0 : sK sh s0 = 13) (b44 : 0 ≤ s1 ∧ s1 < (sL sh s0 : Int)) (Ah0 : ToldAt sh h0 h0p h0f h0t) (b50 : 0 ≤ x2 ∧ x2 < 6) (n51 : inR ((u2 I s0 (s1.toNat) s2) h0f (x2.toNat))) (kt : (u2 I s0 (s1.toNat) s2) h0f (x2.toNat) < 0 → K 63 [none, none, none] [] (sh, (u2 I s0 (s1.toNat) s2), L) (0, 0)) (kf : ¬ ((u2 I s0 (s1.toNat) s2) h0f (x2.toNat) < 0) → K 54 [some (vR h0), some (vR 1), some (vI x2)] [] (sh, (u2 I s0 (s1.toNat) s2), L) (0, 0)) : K 44 [some (vR h0), some (vR 1), some (vI x2)] [vI s2, vI s1, vR s0] (sh, I, L) (0, 0) := by
  refine hK.1 44 [some (vR h0), some (vR 1), some (vI x2)] [vI s2, vI s1, vR s0] (sh, I, L) (0, 0) ?_
  refine And.intro (And.intro (ks0) b44) ?_
  refine hK.1 45 [some (vR h0), some (vR 1), some (vI x2)] [] (sh, (u2 I s0 (s1.toNat) s2), L) (0, 0) ?_
  refine hK.1 46 [some (vR h0), some (vR 1), some (vI x2)] [vR h0] (sh, (u2 I s0 (s1.toNat) s2), L) (0, 0) ?_
  refine And.intro (mem1 Ah0.1) (Exists.intro h0f (And.intro Ah0.2.2.1 ?_))
  refine hK.1 49 [some (vR h0), some (vR 1), some (vI x2)] [vR h0f] (sh, (u2 I s0 (s1.toNat) s2), L) (0, 0) ?_
  refine hK.1 50 [some (vR h0), some (vR 1), some (vI x2)] [vI x2, vR h0f] (sh, (u2 I s0 (s1.toNat) s2), L) (0, 0) ?_
  refine And.intro (And.intro (Ah0.2.2.2.2.2.1.1) (ixL (Ah0.2.2.2.2.2.1.2) b50)) ?_
  refine hK.1 51 [some (vR h0), some (vR 1), some (vI x2)] [vI ((u2 I s0 (s1.toNat) s2) h0f (x2.toNat))] (sh, (u2 I s0 (s1.toNat) s2), L) (0, 0) ?_
  exact And.intro (n51) (And.intro (fun h => hK.2 [false, false, false] _ _ _ _ _ (kt h)) (fun h => hK.2 [true, true, true] _ _ _ _ _ (kf h)))
set_option maxRecDepth 4000 in
theorem B_X10_readStand_54 {Q : oQ} {K : oK} (hK : oCl tb_X10_readStand Q K) {sh : oS} (hs : Sh sh) {I : Nat → Nat → Int} {L : Nat → Nat → Int64} {h0 : Nat} {x2 : Int} (k : T_X8_take [vR 1, vI 45] (sh, I, L) (fun r mm => K 60 [some (vR h0), some (vR 1), some (vI x2)] (r.toList ++ []) mm (0, 0))) : K 54 [some (vR h0), some (vR 1), some (vI x2)] [] (sh, I, L) (0, 0) := by
  refine hK.1 54 [some (vR h0), some (vR 1), some (vI x2)] [] (sh, I, L) (0, 0) ?_
  refine hK.1 55 [some (vR h0), some (vR 1), some (vI x2)] [vR 1] (sh, I, L) (0, 0) ?_
  refine hK.1 57 [some (vR h0), some (vR 1), some (vI x2)] [vI 45, vR 1] (sh, I, L) (0, 0) ?_
  exact And.intro ⟨(sk_1 hs), Nat.le_of_ble_eq_true rfl, Nat.le_of_ble_eq_true rfl, Nat.le_of_ble_eq_true rfl, Nat.le_of_ble_eq_true rfl⟩ k
set_option maxRecDepth 4000 in
theorem B_X10_readStand_60 {Q : oQ} {K : oK} (hK : oCl tb_X10_readStand Q K) {sh : oS} {I : Nat → Nat → Int} {L : Nat → Nat → Int64} {h0 : Nat} {x2 : Int} {s0 : Int} (n60 : inR s0) (kt : ¬ s0 = 0 → K 65 [some (vR h0), some (vR 1), some (vI x2)] [] (sh, I, L) (0, 0)) (kf : ¬ (¬ s0 = 0) → K 63 [none, none, none] [] (sh, I, L) (0, 0)) : K 60 [some (vR h0), some (vR 1), some (vI x2)] [vI s0] (sh, I, L) (0, 0) := by
  refine hK.1 60 [some (vR h0), some (vR 1), some (vI x2)] [vI s0] (sh, I, L) (0, 0) ?_
  exact And.intro (n60) (And.intro (fun h => hK.2 [true, true, true] _ _ _ _ _ (kt h)) (fun h => hK.2 [false, false, false] _ _ _ _ _ (kf h)))
set_option maxRecDepth 4000 in
theorem B_X10_readStand_63 {Q : oQ} {K : oK} (hK : oCl tb_X10_readStand Q K) {sh : oS} {I : Nat → Nat → Int} {L : Nat → Nat → Int64}  (k : Q (some (vI 0)) (sh, I, L)) : K 63 [none, none, none] [] (sh, I, L) (0, 0) := by
  refine hK.1 63 [none, none, none] [] (sh, I, L) (0, 0) ?_
  refine hK.1 64 [none, none, none] [vI 0] (sh, I, L) (0, 0) ?_
  exact And.intro ⟨by decide, by decide, by decide⟩ k
set_option maxRecDepth 4000 in
theorem B_X10_readStand_65 {Q : oQ} {K : oK} (hK : oCl tb_X10_readStand Q K) {sh : oS} (hs : Sh sh) {I : Nat → Nat → Int} {L : Nat → Nat → Int64} {h0 : Nat} {x2 : Int} {h0p h0f h0t : Nat} (Ah0 : ToldAt sh h0 h0p h0f h0t) (k : T_X8_number [vR 1, vI 0, vI 2] (sh, I, L) (fun r mm => K 76 [some (vR h0), none, some (vI x2)] (r.toList ++ [vI x2, vR h0t]) mm (0, 0))) : K 65 [some (vR h0), some (vR 1), some (vI x2)] [] (sh, I, L) (0, 0) := by
  refine hK.1 65 [some (vR h0), some (vR 1), some (vI x2)] [] (sh, I, L) (0, 0) ?_
  refine hK.1 66 [some (vR h0), some (vR 1), some (vI x2)] [vR h0] (sh, I, L) (0, 0) ?_
  refine And.intro (mem1 Ah0.1) (Exists.intro h0t (And.intro Ah0.2.2.2.1 ?_))
  refine hK.1 69 [some (vR h0), some (vR 1), some (vI x2)] [vR h0t] (sh, I, L) (0, 0) ?_
  refine hK.1 70 [some (vR h0), some (vR 1), some (vI x2)] [vI x2, vR h0t] (sh, I, L) (0, 0) ?_
  refine hK.1 71 [some (vR h0), some (vR 1), some (vI x2)] [vR 1, vI x2, vR h0t] (sh, I, L) (0, 0) ?_
  refine hK.1 72 [some (vR h0), some (vR 1), some (vI x2)] [vI 0, vR 1, vI x2, vR h0t] (sh, I, L) (0, 0) ?_
  refine hK.2 [true, false, true] _ _ _ _ _ ?_
  refine hK.1 73 [some (vR h0), none, some (vI x2)] [vI 2, vI 0, vR 1, vI x2, vR h0t] (sh, I, L) (0, 0) ?_
  exact And.intro ⟨(sk_1 hs), Nat.le_of_ble_eq_true rfl, Nat.le_of_ble_eq_true rfl, Nat.le_of_ble_eq_true rfl, Nat.le_of_ble_eq_true rfl⟩ k
set_option maxRecDepth 4000 in
theorem B_X10_readStand_76 {Q : oQ} {K : oK} (hK : oCl tb_X10_readStand Q K) {sh : oS} {I : Nat → Nat → Int} {L : Nat → Nat → Int64} {h0 : Nat} {x2 : Int} {s0 : Nat} {s1 : Int} {s2 : Int} {h0p h0f h0t : Nat} (ks0 : sK sh s0 = 13) (b76 : 0 ≤ s1 ∧ s1 < (sL sh s0 : Int)) (Ah0 : ToldAt sh h0 h0p h0f h0t) (b82 : 0 ≤ x2 ∧ x2 < 6) (n83 : inR ((u2 I s0 (s1.toNat) s2) h0t (x2.toNat))) (kt : (u2 I s0 (s1.toNat) s2) h0t (x2.toNat) < 0 → K 90 [none, none, none] [] (sh, (u2 I s0 (s1.toNat) s2), L) (0, 0)) (kf : ¬ ((u2 I s0 (s1.toNat) s2) h0t (x2.toNat) < 0) → K 86 [none, none, none] [] (sh, (u2 I s0 (s1.toNat) s2), L) (0, 0)) : K 76 [some (vR h0), none, some (vI x2)] [vI s2, vI s1, vR s0] (sh, I, L) (0, 0) := by
  refine hK.1 76 [some (vR h0), none, some (vI x2)] [vI s2, vI s1, vR s0] (sh, I, L) (0, 0) ?_
  refine And.intro (And.intro (ks0) b76) ?_
  refine hK.1 77 [some (vR h0), none, some (vI x2)] [] (sh, (u2 I s0 (s1.toNat) s2), L) (0, 0) ?_
  refine hK.1 78 [some (vR h0), none, some (vI x2)] [vR h0] (sh, (u2 I s0 (s1.toNat) s2), L) (0, 0) ?_
  refine And.intro (mem1 Ah0.1) (Exists.intro h0t (And.intro Ah0.2.2.2.1 ?_))
  refine hK.1 81 [some (vR h0), none, some (vI x2)] [vR h0t] (sh, (u2 I s0 (s1.toNat) s2), L) (0, 0) ?_
  refine hK.1 82 [some (vR h0), none, some (vI x2)] [vI x2, vR h0t] (sh, (u2 I s0 (s1.toNat) s2), L) (0, 0) ?_
  refine And.intro (And.intro (Ah0.2.2.2.2.2.2.1) (ixL (Ah0.2.2.2.2.2.2.2) b82)) ?_
  refine hK.1 83 [some (vR h0), none, some (vI x2)] [vI ((u2 I s0 (s1.toNat) s2) h0t (x2.toNat))] (sh, (u2 I s0 (s1.toNat) s2), L) (0, 0) ?_
  exact And.intro (n83) (And.intro (fun h => hK.2 [false, false, false] _ _ _ _ _ (kt h)) (fun h => hK.2 [false, false, false] _ _ _ _ _ (kf h)))
set_option maxRecDepth 4000 in
theorem B_X10_readStand_86 {Q : oQ} {K : oK} (hK : oCl tb_X10_readStand Q K) {sh : oS} {I : Nat → Nat → Int} {L : Nat → Nat → Int64}  (k : K 91 [none, none, none] [vI 1] (sh, I, L) (0, 0)) : K 86 [none, none, none] [] (sh, I, L) (0, 0) := by
  refine hK.1 86 [none, none, none] [] (sh, I, L) (0, 0) ?_
  refine hK.1 87 [none, none, none] [vI 1] (sh, I, L) (0, 0) ?_
  exact k
set_option maxRecDepth 4000 in
theorem B_X10_readStand_90 {Q : oQ} {K : oK} (hK : oCl tb_X10_readStand Q K) {sh : oS} {I : Nat → Nat → Int} {L : Nat → Nat → Int64}  (k : K 91 [none, none, none] [vI 0] (sh, I, L) (0, 0)) : K 90 [none, none, none] [] (sh, I, L) (0, 0) := by
  refine hK.1 90 [none, none, none] [] (sh, I, L) (0, 0) ?_
  exact k
set_option maxRecDepth 4000 in
theorem B_X10_readStand_91 {Q : oQ} {K : oK} (hK : oCl tb_X10_readStand Q K) {sh : oS} {I : Nat → Nat → Int} {L : Nat → Nat → Int64} {s0 : Int} (o91 : s0 = 0 ∨ s0 = 1) (k : Q (some (vI s0)) (sh, I, L)) : K 91 [none, none, none] [vI s0] (sh, I, L) (0, 0) := by
  refine hK.1 91 [none, none, none] [vI s0] (sh, I, L) (0, 0) ?_
  exact And.intro ⟨o91, by decide, by decide⟩ k
set_option maxRecDepth 4000 in
theorem B_X8_atEnd_0 {Q : oQ} {K : oK} (hK : oCl tb_X8_atEnd Q K) {sh : oS} (hs : Sh sh) {I : Nat → Nat → Int} {L : Nat → Nat → Int64}  (n8a : inR (I 1 2)) (n8b : inR (I 1 1)) (kt : I 1 2 < I 1 1 → K 15 [none] [] (sh, I, L) (0, 0)) (kf : ¬ (I 1 2 < I 1 1) → K 11 [none] [] (sh, I, L) (0, 0)) : K 0 [some (vR 1)] [] (sh, I, L) (0, 0) := by
  refine hK.1 0 [some (vR 1)] [] (sh, I, L) (0, 0) ?_
  refine hK.1 1 [some (vR 1)] [vR 1] (sh, I, L) (0, 0) ?_
  refine And.intro (mem1 (sk_1 hs)) ?_
  refine hK.1 4 [some (vR 1)] [vI (I 1 2)] (sh, I, L) (0, 0) ?_
  refine hK.1 5 [some (vR 1)] [vR 1, vI (I 1 2)] (sh, I, L) (0, 0) ?_
  refine And.intro (mem1 (sk_1 hs)) ?_
  refine hK.1 8 [some (vR 1)] [vI (I 1 1), vI (I 1 2)] (sh, I, L) (0, 0) ?_
  exact And.intro (And.intro n8a n8b) (And.intro (fun h => hK.2 [false] _ _ _ _ _ (kt h)) (fun h => hK.2 [false] _ _ _ _ _ (kf h)))
set_option maxRecDepth 4000 in
theorem B_X8_atEnd_11 {Q : oQ} {K : oK} (hK : oCl tb_X8_atEnd Q K) {sh : oS} {I : Nat → Nat → Int} {L : Nat → Nat → Int64}  (k : K 16 [none] [vI 1] (sh, I, L) (0, 0)) : K 11 [none] [] (sh, I, L) (0, 0) := by
  refine hK.1 11 [none] [] (sh, I, L) (0, 0) ?_
  refine hK.1 12 [none] [vI 1] (sh, I, L) (0, 0) ?_
  exact k
set_option maxRecDepth 4000 in
theorem B_X8_atEnd_15 {Q : oQ} {K : oK} (hK : oCl tb_X8_atEnd Q K) {sh : oS} {I : Nat → Nat → Int} {L : Nat → Nat → Int64}  (k : K 16 [none] [vI 0] (sh, I, L) (0, 0)) : K 15 [none] [] (sh, I, L) (0, 0) := by
  refine hK.1 15 [none] [] (sh, I, L) (0, 0) ?_
  exact k
set_option maxRecDepth 4000 in
theorem B_X8_atEnd_16 {Q : oQ} {K : oK} (hK : oCl tb_X8_atEnd Q K) {sh : oS} {I : Nat → Nat → Int} {L : Nat → Nat → Int64} {s0 : Int} (o16 : s0 = 0 ∨ s0 = 1) (k : Q (some (vI s0)) (sh, I, L)) : K 16 [none] [vI s0] (sh, I, L) (0, 0) := by
  refine hK.1 16 [none] [vI s0] (sh, I, L) (0, 0) ?_
  exact And.intro ⟨o16, by decide, by decide⟩ k
set_option maxRecDepth 4000 in
theorem B_X10_read_0 {Q : oQ} {K : oK} (hK : oCl tb_X10_read Q K) {sh : oS} (hs : Sh sh) {I : Nat → Nat → Int} {L : Nat → Nat → Int64} {h0 : Nat} {h0p h0f h0t : Nat} (Ah0 : ToldAt sh h0 h0p h0f h0t) (k : K 12 [some (vR h0), some (vR 1), some (vI 0)] [] (sh, (u2 (u2 I 1 2 0) h0 5 0), L) (0, 0)) : K 0 [some (vR h0), some (vR 1), none] [] (sh, I, L) (0, 0) := by
  refine hK.1 0 [some (vR h0), some (vR 1), none] [] (sh, I, L) (0, 0) ?_
  refine hK.1 1 [some (vR h0), some (vR 1), none] [vR 1] (sh, I, L) (0, 0) ?_
  refine hK.1 2 [some (vR h0), some (vR 1), none] [vI 0, vR 1] (sh, I, L) (0, 0) ?_
  refine And.intro (mem1 (sk_1 hs)) ?_
  refine hK.1 5 [some (vR h0), some (vR 1), none] [] (sh, (u2 I 1 2 0), L) (0, 0) ?_
  refine hK.1 6 [some (vR h0), some (vR 1), none] [vR h0] (sh, (u2 I 1 2 0), L) (0, 0) ?_
  refine hK.1 7 [some (vR h0), some (vR 1), none] [vI 0, vR h0] (sh, (u2 I 1 2 0), L) (0, 0) ?_
  refine And.intro (mem1 Ah0.1) ?_
  refine hK.1 10 [some (vR h0), some (vR 1), none] [] (sh, (u2 (u2 I 1 2 0) h0 5 0), L) (0, 0) ?_
  refine hK.1 11 [some (vR h0), some (vR 1), none] [vI 0] (sh, (u2 (u2 I 1 2 0) h0 5 0), L) (0, 0) ?_
  exact k
set_option maxRecDepth 4000 in
theorem B_X10_read_12 {Q : oQ} {K : oK} (hK : oCl tb_X10_read Q K) {sh : oS} {I : Nat → Nat → Int} {L : Nat → Nat → Int64} {h0 : Nat} {x2 : Int} (n15a : inR x2) (kt : 6 ≤ x2 → K 58 [none, some (vR 1), none] [] (sh, I, L) (0, 0)) (kf : ¬ (6 ≤ x2) → K 18 [some (vR h0), some (vR 1), some (vI x2)] [] (sh, I, L) (0, 0)) : K 12 [some (vR h0), some (vR 1), some (vI x2)] [] (sh, I, L) (0, 0) := by
  refine hK.1 12 [some (vR h0), some (vR 1), some (vI x2)] [] (sh, I, L) (0, 0) ?_
  refine hK.1 13 [some (vR h0), some (vR 1), some (vI x2)] [vI x2] (sh, I, L) (0, 0) ?_
  refine hK.1 15 [some (vR h0), some (vR 1), some (vI x2)] [vI 6, vI x2] (sh, I, L) (0, 0) ?_
  exact And.intro (And.intro n15a ⟨by decide, by decide⟩) (And.intro (fun h => hK.2 [false, true, false] _ _ _ _ _ (kt h)) (fun h => hK.2 [true, true, true] _ _ _ _ _ (kf h)))
set_option maxRecDepth 4000 in
theorem B_X10_read_18 {Q : oQ} {K : oK} (hK : oCl tb_X10_read Q K) {sh : oS} {I : Nat → Nat → Int} {L : Nat → Nat → Int64} {h0 : Nat} {x2 : Int} (n19 : inR x2) (kt : x2 ≤ 0 → K 34 [some (vR h0), some (vR 1), some (vI x2)] [] (sh, I, L) (0, 0)) (kf : ¬ (x2 ≤ 0) → K 22 [some (vR h0), some (vR 1), some (vI x2)] [] (sh, I, L) (0, 0)) : K 18 [some (vR h0), some (vR 1), some (vI x2)] [] (sh, I, L) (0, 0) := by
  refine hK.1 18 [some (vR h0), some (vR 1), some (vI x2)] [] (sh, I, L) (0, 0) ?_
  refine hK.1 19 [some (vR h0), some (vR 1), some (vI x2)] [vI x2] (sh, I, L) (0, 0) ?_
  exact And.intro (n19) (And.intro (fun h => hK.2 [true, true, true] _ _ _ _ _ (kt h)) (fun h => hK.2 [true, true, true] _ _ _ _ _ (kf h)))
set_option maxRecDepth 4000 in
theorem B_X10_read_22 {Q : oQ} {K : oK} (hK : oCl tb_X10_read Q K) {sh : oS} (hs : Sh sh) {I : Nat → Nat → Int} {L : Nat → Nat → Int64} {h0 : Nat} {x2 : Int} (k : T_X8_take [vR 1, vI 44] (sh, I, L) (fun r mm => K 28 [some (vR h0), some (vR 1), some (vI x2)] (r.toList ++ []) mm (0, 0))) : K 22 [some (vR h0), some (vR 1), some (vI x2)] [] (sh, I, L) (0, 0) := by
  refine hK.1 22 [some (vR h0), some (vR 1), some (vI x2)] [] (sh, I, L) (0, 0) ?_
  refine hK.1 23 [some (vR h0), some (vR 1), some (vI x2)] [vR 1] (sh, I, L) (0, 0) ?_
  refine hK.1 25 [some (vR h0), some (vR 1), some (vI x2)] [vI 44, vR 1] (sh, I, L) (0, 0) ?_
  exact And.intro ⟨(sk_1 hs), Nat.le_of_ble_eq_true rfl, Nat.le_of_ble_eq_true rfl, Nat.le_of_ble_eq_true rfl, Nat.le_of_ble_eq_true rfl⟩ k
set_option maxRecDepth 4000 in
theorem B_X10_read_28 {Q : oQ} {K : oK} (hK : oCl tb_X10_read Q K) {sh : oS} {I : Nat → Nat → Int} {L : Nat → Nat → Int64} {h0 : Nat} {x2 : Int} {s0 : Int} (n28 : inR s0) (kt : ¬ s0 = 0 → K 34 [some (vR h0), some (vR 1), some (vI x2)] [] (sh, I, L) (0, 0)) (kf : ¬ (¬ s0 = 0) → K 31 [none, some (vR 1), none] [] (sh, I, L) (0, 0)) : K 28 [some (vR h0), some (vR 1), some (vI x2)] [vI s0] (sh, I, L) (0, 0) := by
  refine hK.1 28 [some (vR h0), some (vR 1), some (vI x2)] [vI s0] (sh, I, L) (0, 0) ?_
  exact And.intro (n28) (And.intro (fun h => hK.2 [true, true, true] _ _ _ _ _ (kt h)) (fun h => hK.2 [false, true, false] _ _ _ _ _ (kf h)))
set_option maxRecDepth 4000 in
theorem B_X10_read_31 {Q : oQ} {K : oK} (hK : oCl tb_X10_read Q K) {sh : oS} {I : Nat → Nat → Int} {L : Nat → Nat → Int64}  (k : K 58 [none, some (vR 1), none] [] (sh, I, L) (0, 0)) : K 31 [none, some (vR 1), none] [] (sh, I, L) (0, 0) := by
  refine hK.1 31 [none, some (vR 1), none] [] (sh, I, L) (0, 0) ?_
  exact k
set_option maxRecDepth 4000 in
theorem B_X10_read_34 {Q : oQ} {K : oK} (hK : oCl tb_X10_read Q K) {sh : oS} {I : Nat → Nat → Int} {L : Nat → Nat → Int64} {h0 : Nat} {x2 : Int} {h0p h0f h0t : Nat} (k : T_X10_readStand [vR h0, vR 1, vI x2] (sh, I, L) (fun r mm => K 40 [some (vR h0), some (vR 1), some (vI x2)] (r.toList ++ []) mm (0, 0))) (Ah0 : ToldAt sh h0 h0p h0f h0t) : K 34 [some (vR h0), some (vR 1), some (vI x2)] [] (sh, I, L) (0, 0) := by
  refine hK.1 34 [some (vR h0), some (vR 1), some (vI x2)] [] (sh, I, L) (0, 0) ?_
  refine hK.1 35 [some (vR h0), some (vR 1), some (vI x2)] [vR h0] (sh, I, L) (0, 0) ?_
  refine hK.1 36 [some (vR h0), some (vR 1), some (vI x2)] [vR 1, vR h0] (sh, I, L) (0, 0) ?_
  refine hK.1 37 [some (vR h0), some (vR 1), some (vI x2)] [vI x2, vR 1, vR h0] (sh, I, L) (0, 0) ?_
  exact And.intro ⟨Ah0.1, Nat.le_of_ble_eq_true rfl, Nat.le_of_ble_eq_true rfl, Nat.le_of_ble_eq_true rfl, Nat.le_of_ble_eq_true rfl⟩ k
set_option maxRecDepth 4000 in
theorem B_X10_read_40 {Q : oQ} {K : oK} (hK : oCl tb_X10_read Q K) {sh : oS} {I : Nat → Nat → Int} {L : Nat → Nat → Int64} {h0 : Nat} {x2 : Int} {s0 : Int} (n40 : inR s0) (kt : ¬ s0 = 0 → K 45 [some (vR h0), some (vR 1), some (vI x2)] [] (sh, I, L) (0, 0)) (kf : ¬ (¬ s0 = 0) → K 43 [none, none, none] [] (sh, I, L) (0, 0)) : K 40 [some (vR h0), some (vR 1), some (vI x2)] [vI s0] (sh, I, L) (0, 0) := by
  refine hK.1 40 [some (vR h0), some (vR 1), some (vI x2)] [vI s0] (sh, I, L) (0, 0) ?_
  exact And.intro (n40) (And.intro (fun h => hK.2 [true, true, true] _ _ _ _ _ (kt h)) (fun h => hK.2 [false, false, false] _ _ _ _ _ (kf h)))
set_option maxRecDepth 4000 in
theorem B_X10_read_43 {Q : oQ} {K : oK} (hK : oCl tb_X10_read Q K) {sh : oS} {I : Nat → Nat → Int} {L : Nat → Nat → Int64}  (k : Q (some (vI 0)) (sh, I, L)) : K 43 [none, none, none] [] (sh, I, L) (0, 0) := by
  refine hK.1 43 [none, none, none] [] (sh, I, L) (0, 0) ?_
  refine hK.1 44 [none, none, none] [vI 0] (sh, I, L) (0, 0) ?_
  exact And.intro ⟨by decide, by decide, by decide⟩ k
set_option maxRecDepth 4000 in
theorem B_X10_read_45 {Q : oQ} {K : oK} (hK : oCl tb_X10_read Q K) {sh : oS} {I : Nat → Nat → Int} {L : Nat → Nat → Int64} {h0 : Nat} {x2 : Int} {h0p h0f h0t : Nat} (Ah0 : ToldAt sh h0 h0p h0f h0t) (k : K 12 [some (vR h0), some (vR 1), some (vI (x2 + 1))] [] (sh, (u2 I h0 5 (x2 + 1)), L) (0, 0)) : K 45 [some (vR h0), some (vR 1), some (vI x2)] [] (sh, I, L) (0, 0) := by
  refine hK.1 45 [some (vR h0), some (vR 1), some (vI x2)] [] (sh, I, L) (0, 0) ?_
  refine hK.1 46 [some (vR h0), some (vR 1), some (vI x2)] [vR h0] (sh, I, L) (0, 0) ?_
  refine hK.1 47 [some (vR h0), some (vR 1), some (vI x2)] [vI x2, vR h0] (sh, I, L) (0, 0) ?_
  refine hK.1 48 [some (vR h0), some (vR 1), some (vI x2)] [vI 1, vI x2, vR h0] (sh, I, L) (0, 0) ?_
  refine hK.1 49 [some (vR h0), some (vR 1), some (vI x2)] [vI (x2 + 1), vR h0] (sh, I, L) (0, 0) ?_
  refine And.intro (mem1 Ah0.1) ?_
  refine hK.1 52 [some (vR h0), some (vR 1), some (vI x2)] [] (sh, (u2 I h0 5 (x2 + 1)), L) (0, 0) ?_
  refine hK.1 55 [some (vR h0), some (vR 1), some (vI (x2 + 1))] [] (sh, (u2 I h0 5 (x2 + 1)), L) (0, 0) ?_
  exact k
set_option maxRecDepth 4000 in
theorem B_X10_read_58 {Q : oQ} {K : oK} (hK : oCl tb_X10_read Q K) {sh : oS} (hs : Sh sh) {I : Nat → Nat → Int} {L : Nat → Nat → Int64}  (k : T_X8_atEnd [vR 1] (sh, I, L) (fun r mm => K 62 [none, none, none] (r.toList ++ []) mm (0, 0))) : K 58 [none, some (vR 1), none] [] (sh, I, L) (0, 0) := by
  refine hK.1 58 [none, some (vR 1), none] [] (sh, I, L) (0, 0) ?_
  refine hK.2 [false, false, false] _ _ _ _ _ ?_
  refine hK.1 59 [none, none, none] [vR 1] (sh, I, L) (0, 0) ?_
  exact And.intro ⟨(sk_1 hs), Nat.le_of_ble_eq_true rfl, Nat.le_of_ble_eq_true rfl, Nat.le_of_ble_eq_true rfl, Nat.le_of_ble_eq_true rfl⟩ k
set_option maxRecDepth 4000 in
theorem B_X10_read_62 {Q : oQ} {K : oK} (hK : oCl tb_X10_read Q K) {sh : oS} {I : Nat → Nat → Int} {L : Nat → Nat → Int64} {s0 : Int} (o62 : s0 = 0 ∨ s0 = 1) (k : Q (some (vI s0)) (sh, I, L)) : K 62 [none, none, none] [vI s0] (sh, I, L) (0, 0) := by
  refine hK.1 62 [none, none, none] [vI s0] (sh, I, L) (0, 0) ?_
  exact And.intro ⟨o62, by decide, by decide⟩ k
set_option maxRecDepth 4000 in
theorem B_X10_takesOneMore_0 {Q : oQ} {K : oK} (hK : oCl tb_X10_takesOneMore Q K) {sh : oS} {I : Nat → Nat → Int} {L : Nat → Nat → Int64} {h0 : Nat} (k : Q (some (vI 0)) (sh, I, L)) : K 0 [some (vR h0)] [] (sh, I, L) (0, 0) := by
  refine hK.1 0 [some (vR h0)] [] (sh, I, L) (0, 0) ?_
  refine hK.1 1 [some (vR h0)] [vI 0] (sh, I, L) (0, 0) ?_
  exact And.intro ⟨by decide, by decide, by decide⟩ k
set_option maxRecDepth 4000 in
theorem B_X1_settle_0 {Q : oQ} {K : oK} (hK : oCl tb_X1_settle Q K) {sh : oS} (hs : Sh sh) {I : Nat → Nat → Int} {L : Nat → Nat → Int64} {h0 : Nat} {h2 : Nat} {h3 : Nat} {x4 : Int} (n10 : inR x4) (kt : x4 < 0 → K 20 [none, none, none, none, none, none, none] [] (sh, (u2 I 25 3 0), L) (0, 0)) (kf : ¬ (x4 < 0) → K 13 [some (vR h0), some (vR 24), some (vR h2), some (vR h3), some (vI x4), none, none] [] (sh, (u2 I 25 3 0), L) (0, 0)) : K 0 [some (vR h0), some (vR 24), some (vR h2), some (vR h3), some (vI x4), none, none] [] (sh, I, L) (0, 0) := by
  refine hK.1 0 [some (vR h0), some (vR 24), some (vR h2), some (vR h3), some (vI x4), none, none] [] (sh, I, L) (0, 0) ?_
  refine hK.1 1 [some (vR h0), some (vR 24), some (vR h2), some (vR h3), some (vI x4), none, none] [vR 24] (sh, I, L) (0, 0) ?_
  refine And.intro (mem1 (sk_24 hs)) (Exists.intro 25 (And.intro (sr_24_0 hs) ?_))
  refine hK.1 4 [some (vR h0), some (vR 24), some (vR h2), some (vR h3), some (vI x4), none, none] [vR 25] (sh, I, L) (0, 0) ?_
  refine hK.1 5 [some (vR h0), some (vR 24), some (vR h2), some (vR h3), some (vI x4), none, none] [vI 0, vR 25] (sh, I, L) (0, 0) ?_
  refine And.intro (mem1 (sk_25 hs)) ?_
  refine hK.1 8 [some (vR h0), some (vR 24), some (vR h2), some (vR h3), some (vI x4), none, none] [] (sh, (u2 I 25 3 0), L) (0, 0) ?_
  refine hK.1 10 [some (vR h0), some (vR 24), some (vR h2), some (vR h3), some (vI x4), none, none] [vI x4] (sh, (u2 I 25 3 0), L) (0, 0) ?_
  exact And.intro (n10) (And.intro (fun h => hK.2 [false, false, false, false, false, false, false] _ _ _ _ _ (kt h)) (fun h => hK.2 [true, true, true, true, true, false, false] _ _ _ _ _ (kf h)))
set_option maxRecDepth 4000 in
theorem B_X1_settle_13 {Q : oQ} {K : oK} (hK : oCl tb_X1_settle Q K) {sh : oS} {I : Nat → Nat → Int} {L : Nat → Nat → Int64} {h0 : Nat} {h2 : Nat} {h3 : Nat} {x4 : Int} (n17a : inR x4) (kt : x4 < 64 → K 21 [some (vR h0), some (vR 24), some (vR h2), some (vR h3), some (vI x4), none, none] [] (sh, I, L) (0, 0)) (kf : ¬ (x4 < 64) → K 20 [none, none, none, none, none, none, none] [] (sh, I, L) (0, 0)) : K 13 [some (vR h0), some (vR 24), some (vR h2), some (vR h3), some (vI x4), none, none] [] (sh, I, L) (0, 0) := by
  refine hK.1 13 [some (vR h0), some (vR 24), some (vR h2), some (vR h3), some (vI x4), none, none] [] (sh, I, L) (0, 0) ?_
  refine hK.1 15 [some (vR h0), some (vR 24), some (vR h2), some (vR h3), some (vI x4), none, none] [vI x4] (sh, I, L) (0, 0) ?_
  refine hK.1 17 [some (vR h0), some (vR 24), some (vR h2), some (vR h3), some (vI x4), none, none] [vI 64, vI x4] (sh, I, L) (0, 0) ?_
  exact And.intro (And.intro n17a ⟨by decide, by decide⟩) (And.intro (fun h => hK.2 [true, true, true, true, true, false, false] _ _ _ _ _ (kt h)) (fun h => hK.2 [false, false, false, false, false, false, false] _ _ _ _ _ (kf h)))
set_option maxRecDepth 4000 in
theorem B_X1_settle_20 {Q : oQ} {K : oK} (hK : oCl tb_X1_settle Q K) {sh : oS} {I : Nat → Nat → Int} {L : Nat → Nat → Int64}  (k : Q none (sh, I, L)) : K 20 [none, none, none, none, none, none, none] [] (sh, I, L) (0, 0) := by
  refine hK.1 20 [none, none, none, none, none, none, none] [] (sh, I, L) (0, 0) ?_
  exact And.intro rfl (And.intro ⟨by decide, by decide⟩ k)
set_option maxRecDepth 4000 in
theorem B_X1_settle_21 {Q : oQ} {K : oK} (hK : oCl tb_X1_settle Q K) {sh : oS} (hs : Sh sh) {I : Nat → Nat → Int} {L : Nat → Nat → Int64} {h0 : Nat} {h2 : Nat} {h3 : Nat} {x4 : Int} (n25a : inR x4) (k : T_X9_add [vR 25, vR h2, vR h3, vI (x4.tdiv 8), vI (x4.tdiv 8), vI 10] (sh, I, L) (fun r mm => K 50 [some (vR h0), some (vR 24), some (vR h2), some (vR h3), none, none, some (vI (x4.tmod 8))] (r.toList ++ []) mm (0, 0))) : K 21 [some (vR h0), some (vR 24), some (vR h2), some (vR h3), some (vI x4), none, none] [] (sh, I, L) (0, 0) := by
  refine hK.1 21 [some (vR h0), some (vR 24), some (vR h2), some (vR h3), some (vI x4), none, none] [] (sh, I, L) (0, 0) ?_
  refine hK.1 23 [some (vR h0), some (vR 24), some (vR h2), some (vR h3), some (vI x4), none, none] [vI x4] (sh, I, L) (0, 0) ?_
  refine hK.1 25 [some (vR h0), some (vR 24), some (vR h2), some (vR h3), some (vI x4), none, none] [vI 8, vI x4] (sh, I, L) (0, 0) ?_
  refine And.intro (And.intro n25a (And.intro ⟨by decide, by decide⟩ (by decide))) ?_
  refine hK.1 26 [some (vR h0), some (vR 24), some (vR h2), some (vR h3), some (vI x4), none, none] [vI (x4.tdiv 8)] (sh, I, L) (0, 0) ?_
  refine hK.1 28 [some (vR h0), some (vR 24), some (vR h2), some (vR h3), some (vI x4), some (vI (x4.tdiv 8)), none] [] (sh, I, L) (0, 0) ?_
  refine hK.1 30 [some (vR h0), some (vR 24), some (vR h2), some (vR h3), some (vI x4), some (vI (x4.tdiv 8)), none] [vI x4] (sh, I, L) (0, 0) ?_
  refine hK.1 32 [some (vR h0), some (vR 24), some (vR h2), some (vR h3), some (vI x4), some (vI (x4.tdiv 8)), none] [vI 8, vI x4] (sh, I, L) (0, 0) ?_
  refine And.intro (And.intro n25a (And.intro ⟨by decide, by decide⟩ (by decide))) ?_
  refine hK.1 33 [some (vR h0), some (vR 24), some (vR h2), some (vR h3), some (vI x4), some (vI (x4.tdiv 8)), none] [vI (x4.tmod 8)] (sh, I, L) (0, 0) ?_
  refine hK.1 35 [some (vR h0), some (vR 24), some (vR h2), some (vR h3), some (vI x4), some (vI (x4.tdiv 8)), some (vI (x4.tmod 8))] [] (sh, I, L) (0, 0) ?_
  refine hK.1 36 [some (vR h0), some (vR 24), some (vR h2), some (vR h3), some (vI x4), some (vI (x4.tdiv 8)), some (vI (x4.tmod 8))] [vR 24] (sh, I, L) (0, 0) ?_
  refine And.intro (mem1 (sk_24 hs)) (Exists.intro 25 (And.intro (sr_24_0 hs) ?_))
  refine hK.1 39 [some (vR h0), some (vR 24), some (vR h2), some (vR h3), some (vI x4), some (vI (x4.tdiv 8)), some (vI (x4.tmod 8))] [vR 25] (sh, I, L) (0, 0) ?_
  refine hK.1 40 [some (vR h0), some (vR 24), some (vR h2), some (vR h3), some (vI x4), some (vI (x4.tdiv 8)), some (vI (x4.tmod 8))] [vR h2, vR 25] (sh, I, L) (0, 0) ?_
  refine hK.1 41 [some (vR h0), some (vR 24), some (vR h2), some (vR h3), some (vI x4), some (vI (x4.tdiv 8)), some (vI (x4.tmod 8))] [vR h3, vR h2, vR 25] (sh, I, L) (0, 0) ?_
  refine hK.1 43 [some (vR h0), some (vR 24), some (vR h2), some (vR h3), some (vI x4), some (vI (x4.tdiv 8)), some (vI (x4.tmod 8))] [vI (x4.tdiv 8), vR h3, vR h2, vR 25] (sh, I, L) (0, 0) ?_
  refine hK.1 45 [some (vR h0), some (vR 24), some (vR h2), some (vR h3), some (vI x4), some (vI (x4.tdiv 8)), some (vI (x4.tmod 8))] [vI (x4.tdiv 8), vI (x4.tdiv 8), vR h3, vR h2, vR 25] (sh, I, L) (0, 0) ?_
  refine hK.2 [true, true, true, true, false, false, true] _ _ _ _ _ ?_
  refine hK.1 47 [some (vR h0), some (vR 24), some (vR h2), some (vR h3), none, none, some (vI (x4.tmod 8))] [vI 10, vI (x4.tdiv 8), vI (x4.tdiv 8), vR h3, vR h2, vR 25] (sh, I, L) (0, 0) ?_
  exact And.intro ⟨(sk_25 hs), Nat.le_of_ble_eq_true rfl, Nat.le_of_ble_eq_true rfl, Nat.le_of_ble_eq_true rfl, Nat.le_of_ble_eq_true rfl⟩ k
set_option maxRecDepth 4000 in
theorem B_X1_settle_50 {Q : oQ} {K : oK} (hK : oCl tb_X1_settle Q K) {sh : oS} {I : Nat → Nat → Int} {L : Nat → Nat → Int64} {h0 : Nat} {h2 : Nat} {h3 : Nat} {x6 : Int} (kh0_0 : sK sh h0 = 1) (n55a : inR (I h0 0)) (kt : I h0 0 ≤ 1 → K 73 [none, none, none, none, none, none, none] [] (sh, I, L) (0, 0)) (kf : ¬ (I h0 0 ≤ 1) → K 58 [none, some (vR 24), some (vR h2), some (vR h3), none, none, some (vI x6)] [] (sh, I, L) (0, 0)) : K 50 [some (vR h0), some (vR 24), some (vR h2), some (vR h3), none, none, some (vI x6)] [] (sh, I, L) (0, 0) := by
  refine hK.1 50 [some (vR h0), some (vR 24), some (vR h2), some (vR h3), none, none, some (vI x6)] [] (sh, I, L) (0, 0) ?_
  refine hK.1 51 [some (vR h0), some (vR 24), some (vR h2), some (vR h3), none, none, some (vI x6)] [vR h0] (sh, I, L) (0, 0) ?_
  refine And.intro (mem1 kh0_0) ?_
  refine hK.1 54 [some (vR h0), some (vR 24), some (vR h2), some (vR h3), none, none, some (vI x6)] [vI (I h0 0)] (sh, I, L) (0, 0) ?_
  refine hK.1 55 [some (vR h0), some (vR 24), some (vR h2), some (vR h3), none, none, some (vI x6)] [vI 1, vI (I h0 0)] (sh, I, L) (0, 0) ?_
  exact And.intro (And.intro n55a ⟨by decide, by decide⟩) (And.intro (fun h => hK.2 [false, false, false, false, false, false, false] _ _ _ _ _ (kt h)) (fun h => hK.2 [false, true, true, true, false, false, true] _ _ _ _ _ (kf h)))
set_option maxRecDepth 4000 in
theorem B_X1_settle_58 {Q : oQ} {K : oK} (hK : oCl tb_X1_settle Q K) {sh : oS} (hs : Sh sh) {I : Nat → Nat → Int} {L : Nat → Nat → Int64} {h2 : Nat} {h3 : Nat} {x6 : Int} (k : T_X9_add [vR 25, vR h2, vR h3, vI x6, vI x6, vI 10] (sh, I, L) (fun r mm => K 73 [none, none, none, none, none, none, none] (r.toList ++ []) mm (0, 0))) : K 58 [none, some (vR 24), some (vR h2), some (vR h3), none, none, some (vI x6)] [] (sh, I, L) (0, 0) := by
  refine hK.1 58 [none, some (vR 24), some (vR h2), some (vR h3), none, none, some (vI x6)] [] (sh, I, L) (0, 0) ?_
  refine hK.1 59 [none, some (vR 24), some (vR h2), some (vR h3), none, none, some (vI x6)] [vR 24] (sh, I, L) (0, 0) ?_
  refine And.intro (mem1 (sk_24 hs)) (Exists.intro 25 (And.intro (sr_24_0 hs) ?_))
  refine hK.1 62 [none, some (vR 24), some (vR h2), some (vR h3), none, none, some (vI x6)] [vR 25] (sh, I, L) (0, 0) ?_
  refine hK.1 63 [none, some (vR 24), some (vR h2), some (vR h3), none, none, some (vI x6)] [vR h2, vR 25] (sh, I, L) (0, 0) ?_
  refine hK.1 64 [none, some (vR 24), some (vR h2), some (vR h3), none, none, some (vI x6)] [vR h3, vR h2, vR 25] (sh, I, L) (0, 0) ?_
  refine hK.1 66 [none, some (vR 24), some (vR h2), some (vR h3), none, none, some (vI x6)] [vI x6, vR h3, vR h2, vR 25] (sh, I, L) (0, 0) ?_
  refine hK.1 68 [none, some (vR 24), some (vR h2), some (vR h3), none, none, some (vI x6)] [vI x6, vI x6, vR h3, vR h2, vR 25] (sh, I, L) (0, 0) ?_
  refine hK.2 [false, false, false, false, false, false, false] _ _ _ _ _ ?_
  refine hK.1 70 [none, none, none, none, none, none, none] [vI 10, vI x6, vI x6, vR h3, vR h2, vR 25] (sh, I, L) (0, 0) ?_
  exact And.intro ⟨(sk_25 hs), Nat.le_of_ble_eq_true rfl, Nat.le_of_ble_eq_true rfl, Nat.le_of_ble_eq_true rfl, Nat.le_of_ble_eq_true rfl⟩ k
set_option maxRecDepth 4000 in
theorem B_X1_settle_73 {Q : oQ} {K : oK} (hK : oCl tb_X1_settle Q K) {sh : oS} {I : Nat → Nat → Int} {L : Nat → Nat → Int64}  (k : Q none (sh, I, L)) : K 73 [none, none, none, none, none, none, none] [] (sh, I, L) (0, 0) := by
  refine hK.1 73 [none, none, none, none, none, none, none] [] (sh, I, L) (0, 0) ?_
  exact And.intro rfl (And.intro ⟨by decide, by decide⟩ k)
set_option maxRecDepth 4000 in
theorem B_X6_wayOn_0 {Q : oQ} {K : oK} (hK : oCl tb_X6_wayOn Q K) {sh : oS} {I : Nat → Nat → Int} {L : Nat → Nat → Int64} {h0 : Nat} {h0e h0p h0t : Nat} (Ah0 : MarchAt sh h0 h0e h0p h0t) (k : Q (some (vI ((fShl 1 (I h0 1)) - 1))) (sh, I, L)) : K 0 [some (vR h0)] [] (sh, I, L) (0, 0) := by
  refine hK.1 0 [some (vR h0)] [] (sh, I, L) (0, 0) ?_
  refine hK.1 1 [some (vR h0)] [vI 1] (sh, I, L) (0, 0) ?_
  refine hK.1 2 [some (vR h0)] [vR h0, vI 1] (sh, I, L) (0, 0) ?_
  refine And.intro (mem1 Ah0.1) ?_
  refine hK.1 5 [some (vR h0)] [vI (I h0 1), vI 1] (sh, I, L) (0, 0) ?_
  refine hK.1 6 [some (vR h0)] [vI (fShl 1 (I h0 1))] (sh, I, L) (0, 0) ?_
  refine hK.1 7 [some (vR h0)] [vI 1, vI (fShl 1 (I h0 1))] (sh, I, L) (0, 0) ?_
  refine hK.1 8 [some (vR h0)] [vI ((fShl 1 (I h0 1)) - 1)] (sh, I, L) (0, 0) ?_
  exact And.intro ⟨by decide, by decide⟩ k
set_option maxRecDepth 4000 in
theorem B_X7_clear_0 {Q : oQ} {K : oK} (hK : oCl tb_X7_clear Q K) {sh : oS} (hs : Sh sh) {I : Nat → Nat → Int} {L : Nat → Nat → Int64} {x1 : Int} {x2 : Int} (n5a : inR x1) (o13 : x2 = 0 ∨ x2 = 1) (k : T_J7_fill_53178 [vR 36, vI (-1)] (sh, (u2 (u2 (u2 (u2 (u2 I 31 9 (fMin x1 324)) 31 13 x2) 31 10 0) 31 11 0) 31 12 0), L) (fun r mm => K 39 [none, none, none] (r.toList ++ []) mm (0, 0))) : K 0 [some (vR 31), some (vI x1), some (vI x2)] [] (sh, I, L) (0, 0) := by
  refine hK.1 0 [some (vR 31), some (vI x1), some (vI x2)] [] (sh, I, L) (0, 0) ?_
  refine hK.1 1 [some (vR 31), some (vI x1), some (vI x2)] [vR 31] (sh, I, L) (0, 0) ?_
  refine hK.1 2 [some (vR 31), some (vI x1), some (vI x2)] [vI x1, vR 31] (sh, I, L) (0, 0) ?_
  refine hK.1 5 [some (vR 31), some (vI x1), some (vI x2)] [vI 324, vI x1, vR 31] (sh, I, L) (0, 0) ?_
  refine And.intro ⟨n5a, ⟨by decide, by decide⟩, Nat.le_of_ble_eq_true rfl, Nat.le_of_ble_eq_true rfl, Nat.le_of_ble_eq_true rfl⟩ ?_
  refine hK.1 8 [some (vR 31), some (vI x1), some (vI x2)] [vI (fMin x1 324), vR 31] (sh, I, L) (0, 0) ?_
  refine And.intro (mem1 (sk_31 hs)) ?_
  refine hK.1 11 [some (vR 31), some (vI x1), some (vI x2)] [] (sh, (u2 I 31 9 (fMin x1 324)), L) (0, 0) ?_
  refine hK.1 12 [some (vR 31), some (vI x1), some (vI x2)] [vR 31] (sh, (u2 I 31 9 (fMin x1 324)), L) (0, 0) ?_
  refine hK.1 13 [some (vR 31), some (vI x1), some (vI x2)] [vI x2, vR 31] (sh, (u2 I 31 9 (fMin x1 324)), L) (0, 0) ?_
  refine And.intro (And.intro (mem1 (sk_31 hs)) o13) ?_
  refine hK.1 16 [some (vR 31), some (vI x1), some (vI x2)] [] (sh, (u2 (u2 I 31 9 (fMin x1 324)) 31 13 x2), L) (0, 0) ?_
  refine hK.1 17 [some (vR 31), some (vI x1), some (vI x2)] [vR 31] (sh, (u2 (u2 I 31 9 (fMin x1 324)) 31 13 x2), L) (0, 0) ?_
  refine hK.1 18 [some (vR 31), some (vI x1), some (vI x2)] [vI 0, vR 31] (sh, (u2 (u2 I 31 9 (fMin x1 324)) 31 13 x2), L) (0, 0) ?_
  refine And.intro (mem1 (sk_31 hs)) ?_
  refine hK.1 21 [some (vR 31), some (vI x1), some (vI x2)] [] (sh, (u2 (u2 (u2 I 31 9 (fMin x1 324)) 31 13 x2) 31 10 0), L) (0, 0) ?_
  refine hK.1 22 [some (vR 31), some (vI x1), some (vI x2)] [vR 31] (sh, (u2 (u2 (u2 I 31 9 (fMin x1 324)) 31 13 x2) 31 10 0), L) (0, 0) ?_
  refine hK.1 23 [some (vR 31), some (vI x1), some (vI x2)] [vI 0, vR 31] (sh, (u2 (u2 (u2 I 31 9 (fMin x1 324)) 31 13 x2) 31 10 0), L) (0, 0) ?_
  refine And.intro (mem1 (sk_31 hs)) ?_
  refine hK.1 26 [some (vR 31), some (vI x1), some (vI x2)] [] (sh, (u2 (u2 (u2 (u2 I 31 9 (fMin x1 324)) 31 13 x2) 31 10 0) 31 11 0), L) (0, 0) ?_
  refine hK.1 27 [some (vR 31), some (vI x1), some (vI x2)] [vR 31] (sh, (u2 (u2 (u2 (u2 I 31 9 (fMin x1 324)) 31 13 x2) 31 10 0) 31 11 0), L) (0, 0) ?_
  refine hK.1 28 [some (vR 31), some (vI x1), some (vI x2)] [vI 0, vR 31] (sh, (u2 (u2 (u2 (u2 I 31 9 (fMin x1 324)) 31 13 x2) 31 10 0) 31 11 0), L) (0, 0) ?_
  refine And.intro (mem1 (sk_31 hs)) ?_
  refine hK.1 31 [some (vR 31), some (vI x1), some (vI x2)] [] (sh, (u2 (u2 (u2 (u2 (u2 I 31 9 (fMin x1 324)) 31 13 x2) 31 10 0) 31 11 0) 31 12 0), L) (0, 0) ?_
  refine hK.1 32 [some (vR 31), some (vI x1), some (vI x2)] [vR 31] (sh, (u2 (u2 (u2 (u2 (u2 I 31 9 (fMin x1 324)) 31 13 x2) 31 10 0) 31 11 0) 31 12 0), L) (0, 0) ?_
  refine And.intro (mem1 (sk_31 hs)) (Exists.intro 36 (And.intro (sr_31_4 hs) ?_))
  refine hK.1 35 [some (vR 31), some (vI x1), some (vI x2)] [vR 36] (sh, (u2 (u2 (u2 (u2 (u2 I 31 9 (fMin x1 324)) 31 13 x2) 31 10 0) 31 11 0) 31 12 0), L) (0, 0) ?_
  refine hK.2 [false, false, false] _ _ _ _ _ ?_
  refine hK.1 36 [none, none, none] [vI (-1), vR 36] (sh, (u2 (u2 (u2 (u2 (u2 I 31 9 (fMin x1 324)) 31 13 x2) 31 10 0) 31 11 0) 31 12 0), L) (0, 0) ?_
  exact And.intro ⟨Nat.le_of_ble_eq_true rfl, Nat.le_of_ble_eq_true rfl, Nat.le_of_ble_eq_true rfl, Nat.le_of_ble_eq_true rfl⟩ k
set_option maxRecDepth 4000 in
theorem B_X7_clear_39 {Q : oQ} {K : oK} (hK : oCl tb_X7_clear Q K) {sh : oS} {I : Nat → Nat → Int} {L : Nat → Nat → Int64}  (k : Q none (sh, I, L)) : K 39 [none, none, none] [] (sh, I, L) (0, 0) := by
  refine hK.1 39 [none, none, none] [] (sh, I, L) (0, 0) ?_
  exact And.intro rfl (And.intro ⟨by decide, by decide⟩ k)
set_option maxRecDepth 4000 in
theorem B_X6_walk_0 {Q : oQ} {K : oK} (hK : oCl tb_X6_walk Q K) {sh : oS} {I : Nat → Nat → Int} {L : Nat → Nat → Int64} {h0 : Nat} {x1 : Int} {x2 : Int} (k : K 9 [some (vR h0), some (vI x1), some (vI x2), some (vR 29), some (vI 0), some (vI 0), some (vI 0), none] [] (sh, I, L) (0, 0)) : K 0 [some (vR h0), some (vI x1), some (vI x2), some (vR 29), none, none, none, none] [] (sh, I, L) (0, 0) := by
  refine hK.1 0 [some (vR h0), some (vI x1), some (vI x2), some (vR 29), none, none, none, none] [] (sh, I, L) (0, 0) ?_
  refine hK.1 1 [some (vR h0), some (vI x1), some (vI x2), some (vR 29), none, none, none, none] [vI 0] (sh, I, L) (0, 0) ?_
  refine hK.1 3 [some (vR h0), some (vI x1), some (vI x2), some (vR 29), some (vI 0), none, none, none] [] (sh, I, L) (0, 0) ?_
  refine hK.1 4 [some (vR h0), some (vI x1), some (vI x2), some (vR 29), some (vI 0), none, none, none] [vI 0] (sh, I, L) (0, 0) ?_
  refine hK.1 6 [some (vR h0), some (vI x1), some (vI x2), some (vR 29), some (vI 0), some (vI 0), none, none] [] (sh, I, L) (0, 0) ?_
  refine hK.1 7 [some (vR h0), some (vI x1), some (vI x2), some (vR 29), some (vI 0), some (vI 0), none, none] [vI 0] (sh, I, L) (0, 0) ?_
  exact k
set_option maxRecDepth 4000 in
theorem B_X6_walk_9 {Q : oQ} {K : oK} (hK : oCl tb_X6_walk Q K) {sh : oS} {I : Nat → Nat → Int} {L : Nat → Nat → Int64} {h0 : Nat} {x1 : Int} {x2 : Int} {x4 : Int} {x5 : Int} {x6 : Int} {h0e h0p h0t : Nat} (Ah0 : MarchAt sh h0 h0e h0p h0t) (n15a : inR x6) (n15b : inR (I h0 0)) (kt : I h0 0 ≤ x6 → K 80 [none, none, none, none, none, none, none, none] [] (sh, I, L) (0, 0)) (kf : ¬ (I h0 0 ≤ x6) → K 18 [some (vR h0), some (vI x1), some (vI x2), some (vR 29), some (vI x4), some (vI x5), some (vI x6), none] [] (sh, I, L) (0, 0)) : K 9 [some (vR h0), some (vI x1), some (vI x2), some (vR 29), some (vI x4), some (vI x5), some (vI x6), none] [] (sh, I, L) (0, 0) := by
  refine hK.1 9 [some (vR h0), some (vI x1), some (vI x2), some (vR 29), some (vI x4), some (vI x5), some (vI x6), none] [] (sh, I, L) (0, 0) ?_
  refine hK.1 11 [some (vR h0), some (vI x1), some (vI x2), some (vR 29), some (vI x4), some (vI x5), some (vI x6), none] [vI x6] (sh, I, L) (0, 0) ?_
  refine hK.1 12 [some (vR h0), some (vI x1), some (vI x2), some (vR 29), some (vI x4), some (vI x5), some (vI x6), none] [vR h0, vI x6] (sh, I, L) (0, 0) ?_
  refine And.intro (mem1 Ah0.1) ?_
  refine hK.1 15 [some (vR h0), some (vI x1), some (vI x2), some (vR 29), some (vI x4), some (vI x5), some (vI x6), none] [vI (I h0 0), vI x6] (sh, I, L) (0, 0) ?_
  exact And.intro (And.intro n15a n15b) (And.intro (fun h => hK.2 [false, false, false, false, false, false, false, false] _ _ _ _ _ (kt h)) (fun h => hK.2 [true, true, true, true, true, true, true, false] _ _ _ _ _ (kf h)))
set_option maxRecDepth 4000 in
theorem B_X6_walk_18 {Q : oQ} {K : oK} (hK : oCl tb_X6_walk Q K) {sh : oS} (hs : Sh sh) {I : Nat → Nat → Int} {L : Nat → Nat → Int64} {h0 : Nat} {x1 : Int} {x2 : Int} {x4 : Int} {x5 : Int} {x6 : Int} (n22a : inR x6) (n22b : inR (sL sh 29 : Int)) (kt : (sL sh 29 : Int) ≤ x6 → K 80 [none, none, none, none, none, none, none, none] [] (sh, I, L) (0, 0)) (kf : ¬ ((sL sh 29 : Int) ≤ x6) → K 25 [some (vR h0), some (vI x1), some (vI x2), some (vR 29), some (vI x4), some (vI x5), some (vI x6), none] [] (sh, I, L) (0, 0)) : K 18 [some (vR h0), some (vI x1), some (vI x2), some (vR 29), some (vI x4), some (vI x5), some (vI x6), none] [] (sh, I, L) (0, 0) := by
  refine hK.1 18 [some (vR h0), some (vI x1), some (vI x2), some (vR 29), some (vI x4), some (vI x5), some (vI x6), none] [] (sh, I, L) (0, 0) ?_
  refine hK.1 20 [some (vR h0), some (vI x1), some (vI x2), some (vR 29), some (vI x4), some (vI x5), some (vI x6), none] [vI x6] (sh, I, L) (0, 0) ?_
  refine hK.1 21 [some (vR h0), some (vI x1), some (vI x2), some (vR 29), some (vI x4), some (vI x5), some (vI x6), none] [vR 29, vI x6] (sh, I, L) (0, 0) ?_
  refine And.intro (by rw [show sK sh 29 = 13 from sk_29 hs]; exact ⟨by decide, by decide⟩) ?_
  refine hK.1 22 [some (vR h0), some (vI x1), some (vI x2), some (vR 29), some (vI x4), some (vI x5), some (vI x6), none] [vI (sL sh 29 : Int), vI x6] (sh, I, L) (0, 0) ?_
  exact And.intro (And.intro n22a n22b) (And.intro (fun h => hK.2 [false, false, false, false, false, false, false, false] _ _ _ _ _ (kt h)) (fun h => hK.2 [true, true, true, true, true, true, true, false] _ _ _ _ _ (kf h)))
set_option maxRecDepth 4000 in
theorem B_X6_walk_25 {Q : oQ} {K : oK} (hK : oCl tb_X6_walk Q K) {sh : oS} {I : Nat → Nat → Int} {L : Nat → Nat → Int64} {h0 : Nat} {x1 : Int} {x2 : Int} {x4 : Int} {x5 : Int} {x6 : Int} {h0e h0p h0t : Nat} (Ah0 : MarchAt sh h0 h0e h0p h0t) (b31 : 0 ≤ x6 ∧ x6 < 10) (n37a : inR (I h0p (x6.toNat))) (kt : ¬ I h0p (x6.toNat) = 2 → K 51 [some (vR h0), some (vI x1), some (vI x2), some (vR 29), some (vI x4), some (vI x5), some (vI x6), some (vI (I h0p (x6.toNat)))] [] (sh, I, L) (0, 0)) (kf : ¬ (¬ I h0p (x6.toNat) = 2) → K 40 [some (vR h0), some (vI x1), some (vI x2), some (vR 29), some (vI x4), some (vI x5), some (vI x6), none] [] (sh, I, L) (0, 0)) : K 25 [some (vR h0), some (vI x1), some (vI x2), some (vR 29), some (vI x4), some (vI x5), some (vI x6), none] [] (sh, I, L) (0, 0) := by
  refine hK.1 25 [some (vR h0), some (vI x1), some (vI x2), some (vR 29), some (vI x4), some (vI x5), some (vI x6), none] [] (sh, I, L) (0, 0) ?_
  refine hK.1 26 [some (vR h0), some (vI x1), some (vI x2), some (vR 29), some (vI x4), some (vI x5), some (vI x6), none] [vR h0] (sh, I, L) (0, 0) ?_
  refine And.intro (mem1 Ah0.1) (Exists.intro h0p (And.intro Ah0.2.2.1 ?_))
  refine hK.1 29 [some (vR h0), some (vI x1), some (vI x2), some (vR 29), some (vI x4), some (vI x5), some (vI x6), none] [vR h0p] (sh, I, L) (0, 0) ?_
  refine hK.1 31 [some (vR h0), some (vI x1), some (vI x2), some (vR 29), some (vI x4), some (vI x5), some (vI x6), none] [vI x6, vR h0p] (sh, I, L) (0, 0) ?_
  refine And.intro (And.intro (Ah0.2.2.2.2.2.1.1) (ixL (Ah0.2.2.2.2.2.1.2) b31)) ?_
  refine hK.1 32 [some (vR h0), some (vI x1), some (vI x2), some (vR 29), some (vI x4), some (vI x5), some (vI x6), none] [vI (I h0p (x6.toNat))] (sh, I, L) (0, 0) ?_
  refine hK.1 34 [some (vR h0), some (vI x1), some (vI x2), some (vR 29), some (vI x4), some (vI x5), some (vI x6), some (vI (I h0p (x6.toNat)))] [] (sh, I, L) (0, 0) ?_
  refine hK.1 36 [some (vR h0), some (vI x1), some (vI x2), some (vR 29), some (vI x4), some (vI x5), some (vI x6), some (vI (I h0p (x6.toNat)))] [vI (I h0p (x6.toNat))] (sh, I, L) (0, 0) ?_
  refine hK.1 37 [some (vR h0), some (vI x1), some (vI x2), some (vR 29), some (vI x4), some (vI x5), some (vI x6), some (vI (I h0p (x6.toNat)))] [vI 2, vI (I h0p (x6.toNat))] (sh, I, L) (0, 0) ?_
  exact And.intro (And.intro n37a ⟨by decide, by decide⟩) (And.intro (fun h => hK.2 [true, true, true, true, true, true, true, true] _ _ _ _ _ (kt h)) (fun h => hK.2 [true, true, true, true, true, true, true, false] _ _ _ _ _ (kf h)))
set_option maxRecDepth 4000 in
theorem B_X6_walk_40 {Q : oQ} {K : oK} (hK : oCl tb_X6_walk Q K) {sh : oS} {I : Nat → Nat → Int} {L : Nat → Nat → Int64} {h0 : Nat} {x1 : Int} {x2 : Int} {x4 : Int} {x5 : Int} {x6 : Int} (k : K 51 [some (vR h0), some (vI x1), some (vI x2), some (vR 29), some (vI x4), some (vI (x5 + 1)), some (vI x6), some (vI (fAnd (fShr x2 x5) 1))] [] (sh, I, L) (0, 0)) : K 40 [some (vR h0), some (vI x1), some (vI x2), some (vR 29), some (vI x4), some (vI x5), some (vI x6), none] [] (sh, I, L) (0, 0) := by
  refine hK.1 40 [some (vR h0), some (vI x1), some (vI x2), some (vR 29), some (vI x4), some (vI x5), some (vI x6), none] [] (sh, I, L) (0, 0) ?_
  refine hK.1 41 [some (vR h0), some (vI x1), some (vI x2), some (vR 29), some (vI x4), some (vI x5), some (vI x6), none] [vI x2] (sh, I, L) (0, 0) ?_
  refine hK.1 43 [some (vR h0), some (vI x1), some (vI x2), some (vR 29), some (vI x4), some (vI x5), some (vI x6), none] [vI x5, vI x2] (sh, I, L) (0, 0) ?_
  refine hK.1 44 [some (vR h0), some (vI x1), some (vI x2), some (vR 29), some (vI x4), some (vI x5), some (vI x6), none] [vI (fShr x2 x5)] (sh, I, L) (0, 0) ?_
  refine hK.1 45 [some (vR h0), some (vI x1), some (vI x2), some (vR 29), some (vI x4), some (vI x5), some (vI x6), none] [vI 1, vI (fShr x2 x5)] (sh, I, L) (0, 0) ?_
  refine hK.1 46 [some (vR h0), some (vI x1), some (vI x2), some (vR 29), some (vI x4), some (vI x5), some (vI x6), none] [vI (fAnd (fShr x2 x5) 1)] (sh, I, L) (0, 0) ?_
  refine hK.1 48 [some (vR h0), some (vI x1), some (vI x2), some (vR 29), some (vI x4), some (vI x5), some (vI x6), some (vI (fAnd (fShr x2 x5) 1))] [] (sh, I, L) (0, 0) ?_
  exact k
set_option maxRecDepth 4000 in
theorem B_X6_walk_51 {Q : oQ} {K : oK} (hK : oCl tb_X6_walk Q K) {sh : oS} (hs : Sh sh) {I : Nat → Nat → Int} {L : Nat → Nat → Int64} {h0 : Nat} {x1 : Int} {x2 : Int} {x4 : Int} {x5 : Int} {x6 : Int} {x7 : Int} (n60a : inR (x1 - 1)) (n60b : inR (x4 + x7)) (n63b : inR (fMin (x1 - 1) (x4 + x7))) (b73 : 0 ≤ x6 ∧ x6 < 10) (k : K 9 [some (vR h0), some (vI x1), some (vI x2), some (vR 29), some (vI (fMax 0 (fMin (x1 - 1) (x4 + x7)))), some (vI x5), some (vI (x6 + 1)), none] [] (sh, (u2 I 29 (x6.toNat) (fMax 0 (fMin (x1 - 1) (x4 + x7)))), L) (0, 0)) : K 51 [some (vR h0), some (vI x1), some (vI x2), some (vR 29), some (vI x4), some (vI x5), some (vI x6), some (vI x7)] [] (sh, I, L) (0, 0) := by
  refine hK.1 51 [some (vR h0), some (vI x1), some (vI x2), some (vR 29), some (vI x4), some (vI x5), some (vI x6), some (vI x7)] [] (sh, I, L) (0, 0) ?_
  refine hK.1 52 [some (vR h0), some (vI x1), some (vI x2), some (vR 29), some (vI x4), some (vI x5), some (vI x6), some (vI x7)] [vI 0] (sh, I, L) (0, 0) ?_
  refine hK.1 53 [some (vR h0), some (vI x1), some (vI x2), some (vR 29), some (vI x4), some (vI x5), some (vI x6), some (vI x7)] [vI x1, vI 0] (sh, I, L) (0, 0) ?_
  refine hK.1 54 [some (vR h0), some (vI x1), some (vI x2), some (vR 29), some (vI x4), some (vI x5), some (vI x6), some (vI x7)] [vI 1, vI x1, vI 0] (sh, I, L) (0, 0) ?_
  refine hK.1 55 [some (vR h0), some (vI x1), some (vI x2), some (vR 29), some (vI x4), some (vI x5), some (vI x6), some (vI x7)] [vI (x1 - 1), vI 0] (sh, I, L) (0, 0) ?_
  refine hK.1 57 [some (vR h0), some (vI x1), some (vI x2), some (vR 29), some (vI x4), some (vI x5), some (vI x6), some (vI x7)] [vI x4, vI (x1 - 1), vI 0] (sh, I, L) (0, 0) ?_
  refine hK.1 59 [some (vR h0), some (vI x1), some (vI x2), some (vR 29), some (vI x4), some (vI x5), some (vI x6), some (vI x7)] [vI x7, vI x4, vI (x1 - 1), vI 0] (sh, I, L) (0, 0) ?_
  refine hK.1 60 [some (vR h0), some (vI x1), some (vI x2), some (vR 29), some (vI x4), some (vI x5), some (vI x6), some (vI x7)] [vI (x4 + x7), vI (x1 - 1), vI 0] (sh, I, L) (0, 0) ?_
  refine And.intro ⟨n60a, n60b, Nat.le_of_ble_eq_true rfl, Nat.le_of_ble_eq_true rfl, Nat.le_of_ble_eq_true rfl⟩ ?_
  refine hK.1 63 [some (vR h0), some (vI x1), some (vI x2), some (vR 29), some (vI x4), some (vI x5), some (vI x6), some (vI x7)] [vI (fMin (x1 - 1) (x4 + x7)), vI 0] (sh, I, L) (0, 0) ?_
  refine And.intro ⟨⟨by decide, by decide⟩, n63b, Nat.le_of_ble_eq_true rfl, Nat.le_of_ble_eq_true rfl, Nat.le_of_ble_eq_true rfl⟩ ?_
  refine hK.1 66 [some (vR h0), some (vI x1), some (vI x2), some (vR 29), some (vI x4), some (vI x5), some (vI x6), some (vI x7)] [vI (fMax 0 (fMin (x1 - 1) (x4 + x7)))] (sh, I, L) (0, 0) ?_
  refine hK.1 68 [some (vR h0), some (vI x1), some (vI x2), some (vR 29), some (vI (fMax 0 (fMin (x1 - 1) (x4 + x7)))), some (vI x5), some (vI x6), some (vI x7)] [] (sh, I, L) (0, 0) ?_
  refine hK.1 69 [some (vR h0), some (vI x1), some (vI x2), some (vR 29), some (vI (fMax 0 (fMin (x1 - 1) (x4 + x7)))), some (vI x5), some (vI x6), some (vI x7)] [vR 29] (sh, I, L) (0, 0) ?_
  refine hK.1 71 [some (vR h0), some (vI x1), some (vI x2), some (vR 29), some (vI (fMax 0 (fMin (x1 - 1) (x4 + x7)))), some (vI x5), some (vI x6), some (vI x7)] [vI x6, vR 29] (sh, I, L) (0, 0) ?_
  refine hK.1 73 [some (vR h0), some (vI x1), some (vI x2), some (vR 29), some (vI (fMax 0 (fMin (x1 - 1) (x4 + x7)))), some (vI x5), some (vI x6), some (vI x7)] [vI (fMax 0 (fMin (x1 - 1) (x4 + x7))), vI x6, vR 29] (sh, I, L) (0, 0) ?_
  refine And.intro (And.intro (sk_29 hs) (ixL (sl_29 hs) b73)) ?_
  refine hK.1 74 [some (vR h0), some (vI x1), some (vI x2), some (vR 29), some (vI (fMax 0 (fMin (x1 - 1) (x4 + x7)))), some (vI x5), some (vI x6), some (vI x7)] [] (sh, (u2 I 29 (x6.toNat) (fMax 0 (fMin (x1 - 1) (x4 + x7)))), L) (0, 0) ?_
  refine hK.1 77 [some (vR h0), some (vI x1), some (vI x2), some (vR 29), some (vI (fMax 0 (fMin (x1 - 1) (x4 + x7)))), some (vI x5), some (vI (x6 + 1)), some (vI x7)] [] (sh, (u2 I 29 (x6.toNat) (fMax 0 (fMin (x1 - 1) (x4 + x7)))), L) (0, 0) ?_
  refine hK.2 [true, true, true, true, true, true, true, false] _ _ _ _ _ ?_
  exact k
set_option maxRecDepth 4000 in
theorem B_X6_walk_80 {Q : oQ} {K : oK} (hK : oCl tb_X6_walk Q K) {sh : oS} {I : Nat → Nat → Int} {L : Nat → Nat → Int64}  (k : Q none (sh, I, L)) : K 80 [none, none, none, none, none, none, none, none] [] (sh, I, L) (0, 0) := by
  refine hK.1 80 [none, none, none, none, none, none, none, none] [] (sh, I, L) (0, 0) ?_
  exact And.intro rfl (And.intro ⟨by decide, by decide⟩ k)
set_option maxRecDepth 4000 in
theorem B_X2_countBaking_0 {Q : oQ} {K : oK} (hK : oCl tb_X2_countBaking Q K) {sh : oS} (hs : Sh sh) {I : Nat → Nat → Int} {L : Nat → Nat → Int64} {x1 : Int} {x2 : Int} (k : T_J7_fill_53178 [vR 30, vI 0] (sh, I, L) (fun r mm => K 8 [some (vR 24), some (vI x1), some (vI x2), none, none, none, none, none] (r.toList ++ []) mm (0, 0))) : K 0 [some (vR 24), some (vI x1), some (vI x2), none, none, none, none, none] [] (sh, I, L) (0, 0) := by
  refine hK.1 0 [some (vR 24), some (vI x1), some (vI x2), none, none, none, none, none] [] (sh, I, L) (0, 0) ?_
  refine hK.1 1 [some (vR 24), some (vI x1), some (vI x2), none, none, none, none, none] [vR 24] (sh, I, L) (0, 0) ?_
  refine And.intro (mem1 (sk_24 hs)) (Exists.intro 30 (And.intro (sr_24_2 hs) ?_))
  refine hK.1 4 [some (vR 24), some (vI x1), some (vI x2), none, none, none, none, none] [vR 30] (sh, I, L) (0, 0) ?_
  refine hK.1 5 [some (vR 24), some (vI x1), some (vI x2), none, none, none, none, none] [vI 0, vR 30] (sh, I, L) (0, 0) ?_
  exact And.intro ⟨Nat.le_of_ble_eq_true rfl, Nat.le_of_ble_eq_true rfl, Nat.le_of_ble_eq_true rfl, Nat.le_of_ble_eq_true rfl⟩ k
set_option maxRecDepth 4000 in
theorem B_X2_countBaking_8 {Q : oQ} {K : oK} (hK : oCl tb_X2_countBaking Q K) {sh : oS} {I : Nat → Nat → Int} {L : Nat → Nat → Int64} {x1 : Int} {x2 : Int} (k : K 10 [some (vR 24), some (vI x1), some (vI x2), some (vI 0), none, none, none, none] [] (sh, I, L) (0, 0)) : K 8 [some (vR 24), some (vI x1), some (vI x2), none, none, none, none, none] [] (sh, I, L) (0, 0) := by
  refine hK.1 8 [some (vR 24), some (vI x1), some (vI x2), none, none, none, none, none] [] (sh, I, L) (0, 0) ?_
  refine hK.1 9 [some (vR 24), some (vI x1), some (vI x2), none, none, none, none, none] [vI 0] (sh, I, L) (0, 0) ?_
  exact k
set_option maxRecDepth 4000 in
theorem B_X2_countBaking_10 {Q : oQ} {K : oK} (hK : oCl tb_X2_countBaking Q K) {sh : oS} (hs : Sh sh) {I : Nat → Nat → Int} {L : Nat → Nat → Int64} {x1 : Int} {x2 : Int} {x3 : Int} (n18a : inR x3) (n18b : inR (I 25 3)) (kt : I 25 3 ≤ x3 → K 111 [none, none, none, none, none, none, none, none] [] (sh, I, L) (0, 0)) (kf : ¬ (I 25 3 ≤ x3) → K 21 [some (vR 24), some (vI x1), some (vI x2), some (vI x3), none, none, none, none] [] (sh, I, L) (0, 0)) : K 10 [some (vR 24), some (vI x1), some (vI x2), some (vI x3), none, none, none, none] [] (sh, I, L) (0, 0) := by
  refine hK.1 10 [some (vR 24), some (vI x1), some (vI x2), some (vI x3), none, none, none, none] [] (sh, I, L) (0, 0) ?_
  refine hK.1 11 [some (vR 24), some (vI x1), some (vI x2), some (vI x3), none, none, none, none] [vI x3] (sh, I, L) (0, 0) ?_
  refine hK.1 12 [some (vR 24), some (vI x1), some (vI x2), some (vI x3), none, none, none, none] [vR 24, vI x3] (sh, I, L) (0, 0) ?_
  refine And.intro (mem1 (sk_24 hs)) (Exists.intro 25 (And.intro (sr_24_0 hs) ?_))
  refine hK.1 15 [some (vR 24), some (vI x1), some (vI x2), some (vI x3), none, none, none, none] [vR 25, vI x3] (sh, I, L) (0, 0) ?_
  refine And.intro (mem1 (sk_25 hs)) ?_
  refine hK.1 18 [some (vR 24), some (vI x1), some (vI x2), some (vI x3), none, none, none, none] [vI (I 25 3), vI x3] (sh, I, L) (0, 0) ?_
  exact And.intro (And.intro n18a n18b) (And.intro (fun h => hK.2 [false, false, false, false, false, false, false, false] _ _ _ _ _ (kt h)) (fun h => hK.2 [true, true, true, true, false, false, false, false] _ _ _ _ _ (kf h)))
set_option maxRecDepth 4000 in
theorem B_X2_countBaking_21 {Q : oQ} {K : oK} (hK : oCl tb_X2_countBaking Q K) {sh : oS} (hs : Sh sh) {I : Nat → Nat → Int} {L : Nat → Nat → Int64} {x1 : Int} {x2 : Int} {x3 : Int} (b29 : 0 ≤ x3 ∧ x3 < 30) (n53a : inR (((I 27 (x3.toNat)) - x2) + x1)) (n69a : inR (I 28 (x3.toNat))) (k : K 78 [some (vR 24), some (vI x1), some (vI x2), some (vI x3), some (vI (((I 26 (x3.toNat)) * 19) + 9)), none, some (vI (fMin (I 28 (x3.toNat)) 9)), some (vI (fMax (((I 27 (x3.toNat)) - x2) + x1) (-9)))] [] (sh, I, L) (0, 0)) : K 21 [some (vR 24), some (vI x1), some (vI x2), some (vI x3), none, none, none, none] [] (sh, I, L) (0, 0) := by
  refine hK.1 21 [some (vR 24), some (vI x1), some (vI x2), some (vI x3), none, none, none, none] [] (sh, I, L) (0, 0) ?_
  refine hK.1 22 [some (vR 24), some (vI x1), some (vI x2), some (vI x3), none, none, none, none] [vR 24] (sh, I, L) (0, 0) ?_
  refine And.intro (mem1 (sk_24 hs)) (Exists.intro 25 (And.intro (sr_24_0 hs) ?_))
  refine hK.1 25 [some (vR 24), some (vI x1), some (vI x2), some (vI x3), none, none, none, none] [vR 25] (sh, I, L) (0, 0) ?_
  refine And.intro (mem1 (sk_25 hs)) (Exists.intro 26 (And.intro (sr_25_0 hs) ?_))
  refine hK.1 28 [some (vR 24), some (vI x1), some (vI x2), some (vI x3), none, none, none, none] [vR 26] (sh, I, L) (0, 0) ?_
  refine hK.1 29 [some (vR 24), some (vI x1), some (vI x2), some (vI x3), none, none, none, none] [vI x3, vR 26] (sh, I, L) (0, 0) ?_
  refine And.intro (And.intro (sk_26 hs) (ixL (sl_26 hs) b29)) ?_
  refine hK.1 30 [some (vR 24), some (vI x1), some (vI x2), some (vI x3), none, none, none, none] [vI (I 26 (x3.toNat))] (sh, I, L) (0, 0) ?_
  refine hK.1 32 [some (vR 24), some (vI x1), some (vI x2), some (vI x3), none, none, none, none] [vI 19, vI (I 26 (x3.toNat))] (sh, I, L) (0, 0) ?_
  refine hK.1 33 [some (vR 24), some (vI x1), some (vI x2), some (vI x3), none, none, none, none] [vI ((I 26 (x3.toNat)) * 19)] (sh, I, L) (0, 0) ?_
  refine hK.1 35 [some (vR 24), some (vI x1), some (vI x2), some (vI x3), none, none, none, none] [vI 9, vI ((I 26 (x3.toNat)) * 19)] (sh, I, L) (0, 0) ?_
  refine hK.1 36 [some (vR 24), some (vI x1), some (vI x2), some (vI x3), none, none, none, none] [vI (((I 26 (x3.toNat)) * 19) + 9)] (sh, I, L) (0, 0) ?_
  refine hK.1 38 [some (vR 24), some (vI x1), some (vI x2), some (vI x3), some (vI (((I 26 (x3.toNat)) * 19) + 9)), none, none, none] [] (sh, I, L) (0, 0) ?_
  refine hK.1 39 [some (vR 24), some (vI x1), some (vI x2), some (vI x3), some (vI (((I 26 (x3.toNat)) * 19) + 9)), none, none, none] [vR 24] (sh, I, L) (0, 0) ?_
  refine And.intro (mem1 (sk_24 hs)) (Exists.intro 25 (And.intro (sr_24_0 hs) ?_))
  refine hK.1 42 [some (vR 24), some (vI x1), some (vI x2), some (vI x3), some (vI (((I 26 (x3.toNat)) * 19) + 9)), none, none, none] [vR 25] (sh, I, L) (0, 0) ?_
  refine And.intro (mem1 (sk_25 hs)) (Exists.intro 27 (And.intro (sr_25_1 hs) ?_))
  refine hK.1 45 [some (vR 24), some (vI x1), some (vI x2), some (vI x3), some (vI (((I 26 (x3.toNat)) * 19) + 9)), none, none, none] [vR 27] (sh, I, L) (0, 0) ?_
  refine hK.1 46 [some (vR 24), some (vI x1), some (vI x2), some (vI x3), some (vI (((I 26 (x3.toNat)) * 19) + 9)), none, none, none] [vI x3, vR 27] (sh, I, L) (0, 0) ?_
  refine And.intro (And.intro (sk_27 hs) (ixL (sl_27 hs) b29)) ?_
  refine hK.1 47 [some (vR 24), some (vI x1), some (vI x2), some (vI x3), some (vI (((I 26 (x3.toNat)) * 19) + 9)), none, none, none] [vI (I 27 (x3.toNat))] (sh, I, L) (0, 0) ?_
  refine hK.1 48 [some (vR 24), some (vI x1), some (vI x2), some (vI x3), some (vI (((I 26 (x3.toNat)) * 19) + 9)), none, none, none] [vI x2, vI (I 27 (x3.toNat))] (sh, I, L) (0, 0) ?_
  refine hK.1 49 [some (vR 24), some (vI x1), some (vI x2), some (vI x3), some (vI (((I 26 (x3.toNat)) * 19) + 9)), none, none, none] [vI ((I 27 (x3.toNat)) - x2)] (sh, I, L) (0, 0) ?_
  refine hK.1 50 [some (vR 24), some (vI x1), some (vI x2), some (vI x3), some (vI (((I 26 (x3.toNat)) * 19) + 9)), none, none, none] [vI x1, vI ((I 27 (x3.toNat)) - x2)] (sh, I, L) (0, 0) ?_
  refine hK.1 51 [some (vR 24), some (vI x1), some (vI x2), some (vI x3), some (vI (((I 26 (x3.toNat)) * 19) + 9)), none, none, none] [vI (((I 27 (x3.toNat)) - x2) + x1)] (sh, I, L) (0, 0) ?_
  refine hK.1 53 [some (vR 24), some (vI x1), some (vI x2), some (vI x3), some (vI (((I 26 (x3.toNat)) * 19) + 9)), none, none, none] [vI (-9), vI (((I 27 (x3.toNat)) - x2) + x1)] (sh, I, L) (0, 0) ?_
  refine And.intro ⟨n53a, ⟨by decide, by decide⟩, Nat.le_of_ble_eq_true rfl, Nat.le_of_ble_eq_true rfl, Nat.le_of_ble_eq_true rfl⟩ ?_
  refine hK.1 56 [some (vR 24), some (vI x1), some (vI x2), some (vI x3), some (vI (((I 26 (x3.toNat)) * 19) + 9)), none, none, none] [vI (fMax (((I 27 (x3.toNat)) - x2) + x1) (-9))] (sh, I, L) (0, 0) ?_
  refine hK.1 58 [some (vR 24), some (vI x1), some (vI x2), some (vI x3), some (vI (((I 26 (x3.toNat)) * 19) + 9)), some (vI (fMax (((I 27 (x3.toNat)) - x2) + x1) (-9))), none, none] [] (sh, I, L) (0, 0) ?_
  refine hK.1 59 [some (vR 24), some (vI x1), some (vI x2), some (vI x3), some (vI (((I 26 (x3.toNat)) * 19) + 9)), some (vI (fMax (((I 27 (x3.toNat)) - x2) + x1) (-9))), none, none] [vR 24] (sh, I, L) (0, 0) ?_
  refine And.intro (mem1 (sk_24 hs)) (Exists.intro 25 (And.intro (sr_24_0 hs) ?_))
  refine hK.1 62 [some (vR 24), some (vI x1), some (vI x2), some (vI x3), some (vI (((I 26 (x3.toNat)) * 19) + 9)), some (vI (fMax (((I 27 (x3.toNat)) - x2) + x1) (-9))), none, none] [vR 25] (sh, I, L) (0, 0) ?_
  refine And.intro (mem1 (sk_25 hs)) (Exists.intro 28 (And.intro (sr_25_2 hs) ?_))
  refine hK.1 65 [some (vR 24), some (vI x1), some (vI x2), some (vI x3), some (vI (((I 26 (x3.toNat)) * 19) + 9)), some (vI (fMax (((I 27 (x3.toNat)) - x2) + x1) (-9))), none, none] [vR 28] (sh, I, L) (0, 0) ?_
  refine hK.1 66 [some (vR 24), some (vI x1), some (vI x2), some (vI x3), some (vI (((I 26 (x3.toNat)) * 19) + 9)), some (vI (fMax (((I 27 (x3.toNat)) - x2) + x1) (-9))), none, none] [vI x3, vR 28] (sh, I, L) (0, 0) ?_
  refine And.intro (And.intro (sk_28 hs) (ixL (sl_28 hs) b29)) ?_
  refine hK.1 67 [some (vR 24), some (vI x1), some (vI x2), some (vI x3), some (vI (((I 26 (x3.toNat)) * 19) + 9)), some (vI (fMax (((I 27 (x3.toNat)) - x2) + x1) (-9))), none, none] [vI (I 28 (x3.toNat))] (sh, I, L) (0, 0) ?_
  refine hK.1 69 [some (vR 24), some (vI x1), some (vI x2), some (vI x3), some (vI (((I 26 (x3.toNat)) * 19) + 9)), some (vI (fMax (((I 27 (x3.toNat)) - x2) + x1) (-9))), none, none] [vI 9, vI (I 28 (x3.toNat))] (sh, I, L) (0, 0) ?_
  refine And.intro ⟨n69a, ⟨by decide, by decide⟩, Nat.le_of_ble_eq_true rfl, Nat.le_of_ble_eq_true rfl, Nat.le_of_ble_eq_true rfl⟩ ?_
  refine hK.1 72 [some (vR 24), some (vI x1), some (vI x2), some (vI x3), some (vI (((I 26 (x3.toNat)) * 19) + 9)), some (vI (fMax (((I 27 (x3.toNat)) - x2) + x1) (-9))), none, none] [vI (fMin (I 28 (x3.toNat)) 9)] (sh, I, L) (0, 0) ?_
  refine hK.1 74 [some (vR 24), some (vI x1), some (vI x2), some (vI x3), some (vI (((I 26 (x3.toNat)) * 19) + 9)), some (vI (fMax (((I 27 (x3.toNat)) - x2) + x1) (-9))), some (vI (fMin (I 28 (x3.toNat)) 9)), none] [] (sh, I, L) (0, 0) ?_
  refine hK.1 76 [some (vR 24), some (vI x1), some (vI x2), some (vI x3), some (vI (((I 26 (x3.toNat)) * 19) + 9)), some (vI (fMax (((I 27 (x3.toNat)) - x2) + x1) (-9))), some (vI (fMin (I 28 (x3.toNat)) 9)), none] [vI (fMax (((I 27 (x3.toNat)) - x2) + x1) (-9))] (sh, I, L) (0, 0) ?_
  refine hK.2 [true, true, true, true, true, false, true, true] _ _ _ _ _ ?_
  exact k
set_option maxRecDepth 4000 in
theorem B_X2_countBaking_78 {Q : oQ} {K : oK} (hK : oCl tb_X2_countBaking Q K) {sh : oS} {I : Nat → Nat → Int} {L : Nat → Nat → Int64} {x1 : Int} {x2 : Int} {x3 : Int} {x4 : Int} {x6 : Int} {x7 : Int} (n82a : inR x7) (n82b : inR x6) (kt : x6 < x7 → K 105 [some (vR 24), some (vI x1), some (vI x2), some (vI x3), none, none, none, none] [] (sh, I, L) (0, 0)) (kf : ¬ (x6 < x7) → K 85 [some (vR 24), some (vI x1), some (vI x2), some (vI x3), some (vI x4), none, some (vI x6), some (vI x7)] [] (sh, I, L) (0, 0)) : K 78 [some (vR 24), some (vI x1), some (vI x2), some (vI x3), some (vI x4), none, some (vI x6), some (vI x7)] [] (sh, I, L) (0, 0) := by
  refine hK.1 78 [some (vR 24), some (vI x1), some (vI x2), some (vI x3), some (vI x4), none, some (vI x6), some (vI x7)] [] (sh, I, L) (0, 0) ?_
  refine hK.1 80 [some (vR 24), some (vI x1), some (vI x2), some (vI x3), some (vI x4), none, some (vI x6), some (vI x7)] [vI x7] (sh, I, L) (0, 0) ?_
  refine hK.1 82 [some (vR 24), some (vI x1), some (vI x2), some (vI x3), some (vI x4), none, some (vI x6), some (vI x7)] [vI x6, vI x7] (sh, I, L) (0, 0) ?_
  exact And.intro (And.intro n82a n82b) (And.intro (fun h => hK.2 [true, true, true, true, false, false, false, false] _ _ _ _ _ (kt h)) (fun h => hK.2 [true, true, true, true, true, false, true, true] _ _ _ _ _ (kf h)))
set_option maxRecDepth 4000 in
theorem B_X2_countBaking_85 {Q : oQ} {K : oK} (hK : oCl tb_X2_countBaking Q K) {sh : oS} (hs : Sh sh) {I : Nat → Nat → Int} {L : Nat → Nat → Int64} {x1 : Int} {x2 : Int} {x3 : Int} {x4 : Int} {x6 : Int} {x7 : Int} (b95 : 0 ≤ x4 + x7 ∧ x4 + x7 < 152) (k : K 78 [some (vR 24), some (vI x1), some (vI x2), some (vI x3), some (vI x4), none, some (vI x6), some (vI (x7 + 1))] [] (sh, (u2 I 30 ((x4 + x7).toNat) ((I 30 ((x4 + x7).toNat)) + 1)), L) (0, 0)) : K 85 [some (vR 24), some (vI x1), some (vI x2), some (vI x3), some (vI x4), none, some (vI x6), some (vI x7)] [] (sh, I, L) (0, 0) := by
  refine hK.1 85 [some (vR 24), some (vI x1), some (vI x2), some (vI x3), some (vI x4), none, some (vI x6), some (vI x7)] [] (sh, I, L) (0, 0) ?_
  refine hK.1 86 [some (vR 24), some (vI x1), some (vI x2), some (vI x3), some (vI x4), none, some (vI x6), some (vI x7)] [vR 24] (sh, I, L) (0, 0) ?_
  refine And.intro (mem1 (sk_24 hs)) (Exists.intro 30 (And.intro (sr_24_2 hs) ?_))
  refine hK.1 89 [some (vR 24), some (vI x1), some (vI x2), some (vI x3), some (vI x4), none, some (vI x6), some (vI x7)] [vR 30] (sh, I, L) (0, 0) ?_
  refine hK.1 91 [some (vR 24), some (vI x1), some (vI x2), some (vI x3), some (vI x4), none, some (vI x6), some (vI x7)] [vI x4, vR 30] (sh, I, L) (0, 0) ?_
  refine hK.1 93 [some (vR 24), some (vI x1), some (vI x2), some (vI x3), some (vI x4), none, some (vI x6), some (vI x7)] [vI x7, vI x4, vR 30] (sh, I, L) (0, 0) ?_
  refine hK.1 94 [some (vR 24), some (vI x1), some (vI x2), some (vI x3), some (vI x4), none, some (vI x6), some (vI x7)] [vI (x4 + x7), vR 30] (sh, I, L) (0, 0) ?_
  refine hK.1 95 [some (vR 24), some (vI x1), some (vI x2), some (vI x3), some (vI x4), none, some (vI x6), some (vI x7)] [vI (x4 + x7), vR 30, vI (x4 + x7), vR 30] (sh, I, L) (0, 0) ?_
  refine And.intro (And.intro (sk_30 hs) (ixL (sl_30 hs) b95)) ?_
  refine hK.1 96 [some (vR 24), some (vI x1), some (vI x2), some (vI x3), some (vI x4), none, some (vI x6), some (vI x7)] [vI (I 30 ((x4 + x7).toNat)), vI (x4 + x7), vR 30] (sh, I, L) (0, 0) ?_
  refine hK.1 97 [some (vR 24), some (vI x1), some (vI x2), some (vI x3), some (vI x4), none, some (vI x6), some (vI x7)] [vI 1, vI (I 30 ((x4 + x7).toNat)), vI (x4 + x7), vR 30] (sh, I, L) (0, 0) ?_
  refine hK.1 98 [some (vR 24), some (vI x1), some (vI x2), some (vI x3), some (vI x4), none, some (vI x6), some (vI x7)] [vI ((I 30 ((x4 + x7).toNat)) + 1), vI (x4 + x7), vR 30] (sh, I, L) (0, 0) ?_
  refine And.intro (And.intro (sk_30 hs) (ixL (sl_30 hs) b95)) ?_
  refine hK.1 99 [some (vR 24), some (vI x1), some (vI x2), some (vI x3), some (vI x4), none, some (vI x6), some (vI x7)] [] (sh, (u2 I 30 ((x4 + x7).toNat) ((I 30 ((x4 + x7).toNat)) + 1)), L) (0, 0) ?_
  refine hK.1 102 [some (vR 24), some (vI x1), some (vI x2), some (vI x3), some (vI x4), none, some (vI x6), some (vI (x7 + 1))] [] (sh, (u2 I 30 ((x4 + x7).toNat) ((I 30 ((x4 + x7).toNat)) + 1)), L) (0, 0) ?_
  exact k
set_option maxRecDepth 4000 in
theorem B_X2_countBaking_105 {Q : oQ} {K : oK} (hK : oCl tb_X2_countBaking Q K) {sh : oS} {I : Nat → Nat → Int} {L : Nat → Nat → Int64} {x1 : Int} {x2 : Int} {x3 : Int} (k : K 10 [some (vR 24), some (vI x1), some (vI x2), some (vI (x3 + 1)), none, none, none, none] [] (sh, I, L) (0, 0)) : K 105 [some (vR 24), some (vI x1), some (vI x2), some (vI x3), none, none, none, none] [] (sh, I, L) (0, 0) := by
  refine hK.1 105 [some (vR 24), some (vI x1), some (vI x2), some (vI x3), none, none, none, none] [] (sh, I, L) (0, 0) ?_
  refine hK.1 108 [some (vR 24), some (vI x1), some (vI x2), some (vI (x3 + 1)), none, none, none, none] [] (sh, I, L) (0, 0) ?_
  exact k
set_option maxRecDepth 4000 in
theorem B_X2_countBaking_111 {Q : oQ} {K : oK} (hK : oCl tb_X2_countBaking Q K) {sh : oS} {I : Nat → Nat → Int} {L : Nat → Nat → Int64}  (k : Q none (sh, I, L)) : K 111 [none, none, none, none, none, none, none, none] [] (sh, I, L) (0, 0) := by
  refine hK.1 111 [none, none, none, none, none, none, none, none] [] (sh, I, L) (0, 0) ?_
  exact And.intro rfl (And.intro ⟨by decide, by decide⟩ k)
set_option maxRecDepth 4000 in
theorem B_X7_edge_0 {Q : oQ} {K : oK} (hK : oCl tb_X7_edge Q K) {sh : oS} (hs : Sh sh) {I : Nat → Nat → Int} {L : Nat → Nat → Int64} {x1 : Int} {x2 : Int} {x3 : Int} {x4 : Int} (n9a : inR ((I 31 10) + 1)) (kt : (I 31 10) + 1 < 2548 → K 13 [some (vR 31), some (vI x1), some (vI x2), some (vI x3), some (vI x4), none] [] (sh, I, L) (0, 0)) (kf : ¬ ((I 31 10) + 1 < 2548) → K 12 [none, none, none, none, none, none] [] (sh, I, L) (0, 0)) : K 0 [some (vR 31), some (vI x1), some (vI x2), some (vI x3), some (vI x4), none] [] (sh, I, L) (0, 0) := by
  refine hK.1 0 [some (vR 31), some (vI x1), some (vI x2), some (vI x3), some (vI x4), none] [] (sh, I, L) (0, 0) ?_
  refine hK.1 1 [some (vR 31), some (vI x1), some (vI x2), some (vI x3), some (vI x4), none] [vR 31] (sh, I, L) (0, 0) ?_
  refine And.intro (mem1 (sk_31 hs)) ?_
  refine hK.1 4 [some (vR 31), some (vI x1), some (vI x2), some (vI x3), some (vI x4), none] [vI (I 31 10)] (sh, I, L) (0, 0) ?_
  refine hK.1 5 [some (vR 31), some (vI x1), some (vI x2), some (vI x3), some (vI x4), none] [vI 1, vI (I 31 10)] (sh, I, L) (0, 0) ?_
  refine hK.1 6 [some (vR 31), some (vI x1), some (vI x2), some (vI x3), some (vI x4), none] [vI ((I 31 10) + 1)] (sh, I, L) (0, 0) ?_
  refine hK.1 9 [some (vR 31), some (vI x1), some (vI x2), some (vI x3), some (vI x4), none] [vI 2548, vI ((I 31 10) + 1)] (sh, I, L) (0, 0) ?_
  exact And.intro (And.intro n9a ⟨by decide, by decide⟩) (And.intro (fun h => hK.2 [true, true, true, true, true, false] _ _ _ _ _ (kt h)) (fun h => hK.2 [false, false, false, false, false, false] _ _ _ _ _ (kf h)))
set_option maxRecDepth 4000 in
theorem B_X7_edge_12 {Q : oQ} {K : oK} (hK : oCl tb_X7_edge Q K) {sh : oS} {I : Nat → Nat → Int} {L : Nat → Nat → Int64}  (k : Q none (sh, I, L)) : K 12 [none, none, none, none, none, none] [] (sh, I, L) (0, 0) := by
  refine hK.1 12 [none, none, none, none, none, none] [] (sh, I, L) (0, 0) ?_
  exact And.intro rfl (And.intro ⟨by decide, by decide⟩ k)
set_option maxRecDepth 4000 in
theorem B_X7_edge_13 {Q : oQ} {K : oK} (hK : oCl tb_X7_edge Q K) {sh : oS} (hs : Sh sh) {I : Nat → Nat → Int} {L : Nat → Nat → Int64} {x1 : Int} {x2 : Int} {x3 : Int} {x4 : Int} (n17 : inR (I 31 13)) (kt : I 31 13 = 0 → K 25 [some (vR 31), some (vI x1), some (vI x2), some (vI x3), none, none] [] (sh, I, L) (0, 0)) (kf : ¬ (I 31 13 = 0) → K 20 [some (vR 31), some (vI x1), some (vI x2), some (vI x3), some (vI x4), none] [] (sh, I, L) (0, 0)) : K 13 [some (vR 31), some (vI x1), some (vI x2), some (vI x3), some (vI x4), none] [] (sh, I, L) (0, 0) := by
  refine hK.1 13 [some (vR 31), some (vI x1), some (vI x2), some (vI x3), some (vI x4), none] [] (sh, I, L) (0, 0) ?_
  refine hK.1 14 [some (vR 31), some (vI x1), some (vI x2), some (vI x3), some (vI x4), none] [vR 31] (sh, I, L) (0, 0) ?_
  refine And.intro (mem1 (sk_31 hs)) ?_
  refine hK.1 17 [some (vR 31), some (vI x1), some (vI x2), some (vI x3), some (vI x4), none] [vI (I 31 13)] (sh, I, L) (0, 0) ?_
  exact And.intro (n17) (And.intro (fun h => hK.2 [true, true, true, true, false, false] _ _ _ _ _ (kt h)) (fun h => hK.2 [true, true, true, true, true, false] _ _ _ _ _ (kf h)))
set_option maxRecDepth 4000 in
theorem B_X7_edge_20 {Q : oQ} {K : oK} (hK : oCl tb_X7_edge Q K) {sh : oS} {I : Nat → Nat → Int} {L : Nat → Nat → Int64} {x1 : Int} {x2 : Int} {x3 : Int} {x4 : Int} (k : K 26 [some (vR 31), some (vI x1), some (vI x2), some (vI x3), none, none] [vI x4] (sh, I, L) (0, 0)) : K 20 [some (vR 31), some (vI x1), some (vI x2), some (vI x3), some (vI x4), none] [] (sh, I, L) (0, 0) := by
  refine hK.1 20 [some (vR 31), some (vI x1), some (vI x2), some (vI x3), some (vI x4), none] [] (sh, I, L) (0, 0) ?_
  refine hK.1 22 [some (vR 31), some (vI x1), some (vI x2), some (vI x3), some (vI x4), none] [vI x4] (sh, I, L) (0, 0) ?_
  refine hK.2 [true, true, true, true, false, false] _ _ _ _ _ ?_
  exact k
set_option maxRecDepth 4000 in
theorem B_X7_edge_25 {Q : oQ} {K : oK} (hK : oCl tb_X7_edge Q K) {sh : oS} {I : Nat → Nat → Int} {L : Nat → Nat → Int64} {x1 : Int} {x2 : Int} {x3 : Int} (k : K 26 [some (vR 31), some (vI x1), some (vI x2), some (vI x3), none, none] [vI 0] (sh, I, L) (0, 0)) : K 25 [some (vR 31), some (vI x1), some (vI x2), some (vI x3), none, none] [] (sh, I, L) (0, 0) := by
  refine hK.1 25 [some (vR 31), some (vI x1), some (vI x2), some (vI x3), none, none] [] (sh, I, L) (0, 0) ?_
  exact k
set_option maxRecDepth 4000 in
theorem B_X7_edge_26 {Q : oQ} {K : oK} (hK : oCl tb_X7_edge Q K) {sh : oS} (hs : Sh sh) {I : Nat → Nat → Int} {L : Nat → Nat → Int64} {x1 : Int} {x2 : Int} {x3 : Int} {s0 : Int} (b37 : 0 ≤ I 31 10 ∧ I 31 10 < 2548) (b72 : 0 ≤ x1 ∧ x1 < 324) (b103 : 0 ≤ (I 31 10) + 1 ∧ (I 31 10) + 1 < 2548) (b139 : 0 ≤ x2 ∧ x2 < 324) (k : Q none (sh, (u2 (u2 (u2 (u2 (u2 (u2 (u2 (u2 (u2 (u2 (u2 (u2 I 32 ((I 31 10).toNat) x2) 33 ((I 31 10).toNat) x3) 34 ((I 31 10).toNat) s0) 35 ((I 31 10).toNat) (I 36 (x1.toNat))) 36 (x1.toNat) (I 31 10)) 31 10 ((I 31 10) + 1)) 32 (((I 31 10) + 1).toNat) x1) 33 (((I 31 10) + 1).toNat) 0) 34 (((I 31 10) + 1).toNat) (-s0)) 35 (((I 31 10) + 1).toNat) ((u2 (u2 (u2 (u2 (u2 I 32 ((I 31 10).toNat) x2) 33 ((I 31 10).toNat) x3) 34 ((I 31 10).toNat) s0) 35 ((I 31 10).toNat) (I 36 (x1.toNat))) 36 (x1.toNat) (I 31 10)) 36 (x2.toNat))) 36 (x2.toNat) ((I 31 10) + 1)) 31 10 (((I 31 10) + 1) + 1)), L)) : K 26 [some (vR 31), some (vI x1), some (vI x2), some (vI x3), none, none] [vI s0] (sh, I, L) (0, 0) := by
  refine hK.1 26 [some (vR 31), some (vI x1), some (vI x2), some (vI x3), none, none] [vI s0] (sh, I, L) (0, 0) ?_
  refine hK.1 28 [some (vR 31), some (vI x1), some (vI x2), some (vI x3), none, some (vI s0)] [] (sh, I, L) (0, 0) ?_
  refine hK.1 29 [some (vR 31), some (vI x1), some (vI x2), some (vI x3), none, some (vI s0)] [vR 31] (sh, I, L) (0, 0) ?_
  refine And.intro (mem1 (sk_31 hs)) (Exists.intro 32 (And.intro (sr_31_0 hs) ?_))
  refine hK.1 32 [some (vR 31), some (vI x1), some (vI x2), some (vI x3), none, some (vI s0)] [vR 32] (sh, I, L) (0, 0) ?_
  refine hK.1 33 [some (vR 31), some (vI x1), some (vI x2), some (vI x3), none, some (vI s0)] [vR 31, vR 32] (sh, I, L) (0, 0) ?_
  refine And.intro (mem1 (sk_31 hs)) ?_
  refine hK.1 36 [some (vR 31), some (vI x1), some (vI x2), some (vI x3), none, some (vI s0)] [vI (I 31 10), vR 32] (sh, I, L) (0, 0) ?_
  refine hK.1 37 [some (vR 31), some (vI x1), some (vI x2), some (vI x3), none, some (vI s0)] [vI x2, vI (I 31 10), vR 32] (sh, I, L) (0, 0) ?_
  refine And.intro (And.intro (sk_32 hs) (ixL (sl_32 hs) b37)) ?_
  refine hK.1 38 [some (vR 31), some (vI x1), some (vI x2), some (vI x3), none, some (vI s0)] [] (sh, (u2 I 32 ((I 31 10).toNat) x2), L) (0, 0) ?_
  refine hK.1 39 [some (vR 31), some (vI x1), some (vI x2), some (vI x3), none, some (vI s0)] [vR 31] (sh, (u2 I 32 ((I 31 10).toNat) x2), L) (0, 0) ?_
  refine And.intro (mem1 (sk_31 hs)) (Exists.intro 33 (And.intro (sr_31_1 hs) ?_))
  refine hK.1 42 [some (vR 31), some (vI x1), some (vI x2), some (vI x3), none, some (vI s0)] [vR 33] (sh, (u2 I 32 ((I 31 10).toNat) x2), L) (0, 0) ?_
  refine hK.1 43 [some (vR 31), some (vI x1), some (vI x2), some (vI x3), none, some (vI s0)] [vR 31, vR 33] (sh, (u2 I 32 ((I 31 10).toNat) x2), L) (0, 0) ?_
  refine And.intro (mem1 (sk_31 hs)) ?_
  refine hK.1 46 [some (vR 31), some (vI x1), some (vI x2), some (vI x3), none, some (vI s0)] [vI (I 31 10), vR 33] (sh, (u2 I 32 ((I 31 10).toNat) x2), L) (0, 0) ?_
  refine hK.1 47 [some (vR 31), some (vI x1), some (vI x2), some (vI x3), none, some (vI s0)] [vI x3, vI (I 31 10), vR 33] (sh, (u2 I 32 ((I 31 10).toNat) x2), L) (0, 0) ?_
  refine And.intro (And.intro (sk_33 hs) (ixL (sl_33 hs) b37)) ?_
  refine hK.1 48 [some (vR 31), some (vI x1), some (vI x2), some (vI x3), none, some (vI s0)] [] (sh, (u2 (u2 I 32 ((I 31 10).toNat) x2) 33 ((I 31 10).toNat) x3), L) (0, 0) ?_
  refine hK.1 49 [some (vR 31), some (vI x1), some (vI x2), some (vI x3), none, some (vI s0)] [vR 31] (sh, (u2 (u2 I 32 ((I 31 10).toNat) x2) 33 ((I 31 10).toNat) x3), L) (0, 0) ?_
  refine And.intro (mem1 (sk_31 hs)) (Exists.intro 34 (And.intro (sr_31_2 hs) ?_))
  refine hK.1 52 [some (vR 31), some (vI x1), some (vI x2), some (vI x3), none, some (vI s0)] [vR 34] (sh, (u2 (u2 I 32 ((I 31 10).toNat) x2) 33 ((I 31 10).toNat) x3), L) (0, 0) ?_
  refine hK.1 53 [some (vR 31), some (vI x1), some (vI x2), some (vI x3), none, some (vI s0)] [vR 31, vR 34] (sh, (u2 (u2 I 32 ((I 31 10).toNat) x2) 33 ((I 31 10).toNat) x3), L) (0, 0) ?_
  refine And.intro (mem1 (sk_31 hs)) ?_
  refine hK.1 56 [some (vR 31), some (vI x1), some (vI x2), some (vI x3), none, some (vI s0)] [vI (I 31 10), vR 34] (sh, (u2 (u2 I 32 ((I 31 10).toNat) x2) 33 ((I 31 10).toNat) x3), L) (0, 0) ?_
  refine hK.1 58 [some (vR 31), some (vI x1), some (vI x2), some (vI x3), none, some (vI s0)] [vI s0, vI (I 31 10), vR 34] (sh, (u2 (u2 I 32 ((I 31 10).toNat) x2) 33 ((I 31 10).toNat) x3), L) (0, 0) ?_
  refine And.intro (And.intro (sk_34 hs) (ixL (sl_34 hs) b37)) ?_
  refine hK.1 59 [some (vR 31), some (vI x1), some (vI x2), some (vI x3), none, some (vI s0)] [] (sh, (u2 (u2 (u2 I 32 ((I 31 10).toNat) x2) 33 ((I 31 10).toNat) x3) 34 ((I 31 10).toNat) s0), L) (0, 0) ?_
  refine hK.1 60 [some (vR 31), some (vI x1), some (vI x2), some (vI x3), none, some (vI s0)] [vR 31] (sh, (u2 (u2 (u2 I 32 ((I 31 10).toNat) x2) 33 ((I 31 10).toNat) x3) 34 ((I 31 10).toNat) s0), L) (0, 0) ?_
  refine And.intro (mem1 (sk_31 hs)) (Exists.intro 35 (And.intro (sr_31_3 hs) ?_))
  refine hK.1 63 [some (vR 31), some (vI x1), some (vI x2), some (vI x3), none, some (vI s0)] [vR 35] (sh, (u2 (u2 (u2 I 32 ((I 31 10).toNat) x2) 33 ((I 31 10).toNat) x3) 34 ((I 31 10).toNat) s0), L) (0, 0) ?_
  refine hK.1 64 [some (vR 31), some (vI x1), some (vI x2), some (vI x3), none, some (vI s0)] [vR 31, vR 35] (sh, (u2 (u2 (u2 I 32 ((I 31 10).toNat) x2) 33 ((I 31 10).toNat) x3) 34 ((I 31 10).toNat) s0), L) (0, 0) ?_
  refine And.intro (mem1 (sk_31 hs)) ?_
  refine hK.1 67 [some (vR 31), some (vI x1), some (vI x2), some (vI x3), none, some (vI s0)] [vI (I 31 10), vR 35] (sh, (u2 (u2 (u2 I 32 ((I 31 10).toNat) x2) 33 ((I 31 10).toNat) x3) 34 ((I 31 10).toNat) s0), L) (0, 0) ?_
  refine hK.1 68 [some (vR 31), some (vI x1), some (vI x2), some (vI x3), none, some (vI s0)] [vR 31, vI (I 31 10), vR 35] (sh, (u2 (u2 (u2 I 32 ((I 31 10).toNat) x2) 33 ((I 31 10).toNat) x3) 34 ((I 31 10).toNat) s0), L) (0, 0) ?_
  refine And.intro (mem1 (sk_31 hs)) (Exists.intro 36 (And.intro (sr_31_4 hs) ?_))
  refine hK.1 71 [some (vR 31), some (vI x1), some (vI x2), some (vI x3), none, some (vI s0)] [vR 36, vI (I 31 10), vR 35] (sh, (u2 (u2 (u2 I 32 ((I 31 10).toNat) x2) 33 ((I 31 10).toNat) x3) 34 ((I 31 10).toNat) s0), L) (0, 0) ?_
  refine hK.1 72 [some (vR 31), some (vI x1), some (vI x2), some (vI x3), none, some (vI s0)] [vI x1, vR 36, vI (I 31 10), vR 35] (sh, (u2 (u2 (u2 I 32 ((I 31 10).toNat) x2) 33 ((I 31 10).toNat) x3) 34 ((I 31 10).toNat) s0), L) (0, 0) ?_
  refine And.intro (And.intro (sk_36 hs) (ixL (sl_36 hs) b72)) ?_
  refine hK.1 73 [some (vR 31), some (vI x1), some (vI x2), some (vI x3), none, some (vI s0)] [vI (I 36 (x1.toNat)), vI (I 31 10), vR 35] (sh, (u2 (u2 (u2 I 32 ((I 31 10).toNat) x2) 33 ((I 31 10).toNat) x3) 34 ((I 31 10).toNat) s0), L) (0, 0) ?_
  refine And.intro (And.intro (sk_35 hs) (ixL (sl_35 hs) b37)) ?_
  refine hK.1 74 [some (vR 31), some (vI x1), some (vI x2), some (vI x3), none, some (vI s0)] [] (sh, (u2 (u2 (u2 (u2 I 32 ((I 31 10).toNat) x2) 33 ((I 31 10).toNat) x3) 34 ((I 31 10).toNat) s0) 35 ((I 31 10).toNat) (I 36 (x1.toNat))), L) (0, 0) ?_
  refine hK.1 75 [some (vR 31), some (vI x1), some (vI x2), some (vI x3), none, some (vI s0)] [vR 31] (sh, (u2 (u2 (u2 (u2 I 32 ((I 31 10).toNat) x2) 33 ((I 31 10).toNat) x3) 34 ((I 31 10).toNat) s0) 35 ((I 31 10).toNat) (I 36 (x1.toNat))), L) (0, 0) ?_
  refine And.intro (mem1 (sk_31 hs)) (Exists.intro 36 (And.intro (sr_31_4 hs) ?_))
  refine hK.1 78 [some (vR 31), some (vI x1), some (vI x2), some (vI x3), none, some (vI s0)] [vR 36] (sh, (u2 (u2 (u2 (u2 I 32 ((I 31 10).toNat) x2) 33 ((I 31 10).toNat) x3) 34 ((I 31 10).toNat) s0) 35 ((I 31 10).toNat) (I 36 (x1.toNat))), L) (0, 0) ?_
  refine hK.1 79 [some (vR 31), some (vI x1), some (vI x2), some (vI x3), none, some (vI s0)] [vI x1, vR 36] (sh, (u2 (u2 (u2 (u2 I 32 ((I 31 10).toNat) x2) 33 ((I 31 10).toNat) x3) 34 ((I 31 10).toNat) s0) 35 ((I 31 10).toNat) (I 36 (x1.toNat))), L) (0, 0) ?_
  refine hK.1 80 [some (vR 31), some (vI x1), some (vI x2), some (vI x3), none, some (vI s0)] [vR 31, vI x1, vR 36] (sh, (u2 (u2 (u2 (u2 I 32 ((I 31 10).toNat) x2) 33 ((I 31 10).toNat) x3) 34 ((I 31 10).toNat) s0) 35 ((I 31 10).toNat) (I 36 (x1.toNat))), L) (0, 0) ?_
  refine And.intro (mem1 (sk_31 hs)) ?_
  refine hK.1 83 [some (vR 31), some (vI x1), some (vI x2), some (vI x3), none, some (vI s0)] [vI (I 31 10), vI x1, vR 36] (sh, (u2 (u2 (u2 (u2 I 32 ((I 31 10).toNat) x2) 33 ((I 31 10).toNat) x3) 34 ((I 31 10).toNat) s0) 35 ((I 31 10).toNat) (I 36 (x1.toNat))), L) (0, 0) ?_
  refine And.intro (And.intro (sk_36 hs) (ixL (sl_36 hs) b72)) ?_
  refine hK.1 84 [some (vR 31), some (vI x1), some (vI x2), some (vI x3), none, some (vI s0)] [] (sh, (u2 (u2 (u2 (u2 (u2 I 32 ((I 31 10).toNat) x2) 33 ((I 31 10).toNat) x3) 34 ((I 31 10).toNat) s0) 35 ((I 31 10).toNat) (I 36 (x1.toNat))) 36 (x1.toNat) (I 31 10)), L) (0, 0) ?_
  refine hK.1 85 [some (vR 31), some (vI x1), some (vI x2), some (vI x3), none, some (vI s0)] [vR 31] (sh, (u2 (u2 (u2 (u2 (u2 I 32 ((I 31 10).toNat) x2) 33 ((I 31 10).toNat) x3) 34 ((I 31 10).toNat) s0) 35 ((I 31 10).toNat) (I 36 (x1.toNat))) 36 (x1.toNat) (I 31 10)), L) (0, 0) ?_
  refine hK.1 86 [some (vR 31), some (vI x1), some (vI x2), some (vI x3), none, some (vI s0)] [vR 31, vR 31] (sh, (u2 (u2 (u2 (u2 (u2 I 32 ((I 31 10).toNat) x2) 33 ((I 31 10).toNat) x3) 34 ((I 31 10).toNat) s0) 35 ((I 31 10).toNat) (I 36 (x1.toNat))) 36 (x1.toNat) (I 31 10)), L) (0, 0) ?_
  refine And.intro (mem1 (sk_31 hs)) ?_
  refine hK.1 89 [some (vR 31), some (vI x1), some (vI x2), some (vI x3), none, some (vI s0)] [vI (I 31 10), vR 31] (sh, (u2 (u2 (u2 (u2 (u2 I 32 ((I 31 10).toNat) x2) 33 ((I 31 10).toNat) x3) 34 ((I 31 10).toNat) s0) 35 ((I 31 10).toNat) (I 36 (x1.toNat))) 36 (x1.toNat) (I 31 10)), L) (0, 0) ?_
  refine hK.1 90 [some (vR 31), some (vI x1), some (vI x2), some (vI x3), none, some (vI s0)] [vI 1, vI (I 31 10), vR 31] (sh, (u2 (u2 (u2 (u2 (u2 I 32 ((I 31 10).toNat) x2) 33 ((I 31 10).toNat) x3) 34 ((I 31 10).toNat) s0) 35 ((I 31 10).toNat) (I 36 (x1.toNat))) 36 (x1.toNat) (I 31 10)), L) (0, 0) ?_
  refine hK.1 91 [some (vR 31), some (vI x1), some (vI x2), some (vI x3), none, some (vI s0)] [vI ((I 31 10) + 1), vR 31] (sh, (u2 (u2 (u2 (u2 (u2 I 32 ((I 31 10).toNat) x2) 33 ((I 31 10).toNat) x3) 34 ((I 31 10).toNat) s0) 35 ((I 31 10).toNat) (I 36 (x1.toNat))) 36 (x1.toNat) (I 31 10)), L) (0, 0) ?_
  refine And.intro (mem1 (sk_31 hs)) ?_
  refine hK.1 94 [some (vR 31), some (vI x1), some (vI x2), some (vI x3), none, some (vI s0)] [] (sh, (u2 (u2 (u2 (u2 (u2 (u2 I 32 ((I 31 10).toNat) x2) 33 ((I 31 10).toNat) x3) 34 ((I 31 10).toNat) s0) 35 ((I 31 10).toNat) (I 36 (x1.toNat))) 36 (x1.toNat) (I 31 10)) 31 10 ((I 31 10) + 1)), L) (0, 0) ?_
  refine hK.1 95 [some (vR 31), some (vI x1), some (vI x2), some (vI x3), none, some (vI s0)] [vR 31] (sh, (u2 (u2 (u2 (u2 (u2 (u2 I 32 ((I 31 10).toNat) x2) 33 ((I 31 10).toNat) x3) 34 ((I 31 10).toNat) s0) 35 ((I 31 10).toNat) (I 36 (x1.toNat))) 36 (x1.toNat) (I 31 10)) 31 10 ((I 31 10) + 1)), L) (0, 0) ?_
  refine And.intro (mem1 (sk_31 hs)) (Exists.intro 32 (And.intro (sr_31_0 hs) ?_))
  refine hK.1 98 [some (vR 31), some (vI x1), some (vI x2), some (vI x3), none, some (vI s0)] [vR 32] (sh, (u2 (u2 (u2 (u2 (u2 (u2 I 32 ((I 31 10).toNat) x2) 33 ((I 31 10).toNat) x3) 34 ((I 31 10).toNat) s0) 35 ((I 31 10).toNat) (I 36 (x1.toNat))) 36 (x1.toNat) (I 31 10)) 31 10 ((I 31 10) + 1)), L) (0, 0) ?_
  refine hK.1 99 [some (vR 31), some (vI x1), some (vI x2), some (vI x3), none, some (vI s0)] [vR 31, vR 32] (sh, (u2 (u2 (u2 (u2 (u2 (u2 I 32 ((I 31 10).toNat) x2) 33 ((I 31 10).toNat) x3) 34 ((I 31 10).toNat) s0) 35 ((I 31 10).toNat) (I 36 (x1.toNat))) 36 (x1.toNat) (I 31 10)) 31 10 ((I 31 10) + 1)), L) (0, 0) ?_
  refine And.intro (mem1 (sk_31 hs)) ?_
  refine hK.1 102 [some (vR 31), some (vI x1), some (vI x2), some (vI x3), none, some (vI s0)] [vI ((I 31 10) + 1), vR 32] (sh, (u2 (u2 (u2 (u2 (u2 (u2 I 32 ((I 31 10).toNat) x2) 33 ((I 31 10).toNat) x3) 34 ((I 31 10).toNat) s0) 35 ((I 31 10).toNat) (I 36 (x1.toNat))) 36 (x1.toNat) (I 31 10)) 31 10 ((I 31 10) + 1)), L) (0, 0) ?_
  refine hK.1 103 [some (vR 31), some (vI x1), some (vI x2), some (vI x3), none, some (vI s0)] [vI x1, vI ((I 31 10) + 1), vR 32] (sh, (u2 (u2 (u2 (u2 (u2 (u2 I 32 ((I 31 10).toNat) x2) 33 ((I 31 10).toNat) x3) 34 ((I 31 10).toNat) s0) 35 ((I 31 10).toNat) (I 36 (x1.toNat))) 36 (x1.toNat) (I 31 10)) 31 10 ((I 31 10) + 1)), L) (0, 0) ?_
  refine And.intro (And.intro (sk_32 hs) (ixL (sl_32 hs) b103)) ?_
  refine hK.1 104 [some (vR 31), some (vI x1), some (vI x2), some (vI x3), none, some (vI s0)] [] (sh, (u2 (u2 (u2 (u2 (u2 (u2 (u2 I 32 ((I 31 10).toNat) x2) 33 ((I 31 10).toNat) x3) 34 ((I 31 10).toNat) s0) 35 ((I 31 10).toNat) (I 36 (x1.toNat))) 36 (x1.toNat) (I 31 10)) 31 10 ((I 31 10) + 1)) 32 (((I 31 10) + 1).toNat) x1), L) (0, 0) ?_
  refine hK.1 105 [some (vR 31), some (vI x1), some (vI x2), some (vI x3), none, some (vI s0)] [vR 31] (sh, (u2 (u2 (u2 (u2 (u2 (u2 (u2 I 32 ((I 31 10).toNat) x2) 33 ((I 31 10).toNat) x3) 34 ((I 31 10).toNat) s0) 35 ((I 31 10).toNat) (I 36 (x1.toNat))) 36 (x1.toNat) (I 31 10)) 31 10 ((I 31 10) + 1)) 32 (((I 31 10) + 1).toNat) x1), L) (0, 0) ?_
  refine And.intro (mem1 (sk_31 hs)) (Exists.intro 33 (And.intro (sr_31_1 hs) ?_))
  refine hK.1 108 [some (vR 31), some (vI x1), some (vI x2), some (vI x3), none, some (vI s0)] [vR 33] (sh, (u2 (u2 (u2 (u2 (u2 (u2 (u2 I 32 ((I 31 10).toNat) x2) 33 ((I 31 10).toNat) x3) 34 ((I 31 10).toNat) s0) 35 ((I 31 10).toNat) (I 36 (x1.toNat))) 36 (x1.toNat) (I 31 10)) 31 10 ((I 31 10) + 1)) 32 (((I 31 10) + 1).toNat) x1), L) (0, 0) ?_
  refine hK.1 109 [some (vR 31), some (vI x1), some (vI x2), some (vI x3), none, some (vI s0)] [vR 31, vR 33] (sh, (u2 (u2 (u2 (u2 (u2 (u2 (u2 I 32 ((I 31 10).toNat) x2) 33 ((I 31 10).toNat) x3) 34 ((I 31 10).toNat) s0) 35 ((I 31 10).toNat) (I 36 (x1.toNat))) 36 (x1.toNat) (I 31 10)) 31 10 ((I 31 10) + 1)) 32 (((I 31 10) + 1).toNat) x1), L) (0, 0) ?_
  refine And.intro (mem1 (sk_31 hs)) ?_
  refine hK.1 112 [some (vR 31), some (vI x1), some (vI x2), some (vI x3), none, some (vI s0)] [vI ((I 31 10) + 1), vR 33] (sh, (u2 (u2 (u2 (u2 (u2 (u2 (u2 I 32 ((I 31 10).toNat) x2) 33 ((I 31 10).toNat) x3) 34 ((I 31 10).toNat) s0) 35 ((I 31 10).toNat) (I 36 (x1.toNat))) 36 (x1.toNat) (I 31 10)) 31 10 ((I 31 10) + 1)) 32 (((I 31 10) + 1).toNat) x1), L) (0, 0) ?_
  refine hK.1 113 [some (vR 31), some (vI x1), some (vI x2), some (vI x3), none, some (vI s0)] [vI 0, vI ((I 31 10) + 1), vR 33] (sh, (u2 (u2 (u2 (u2 (u2 (u2 (u2 I 32 ((I 31 10).toNat) x2) 33 ((I 31 10).toNat) x3) 34 ((I 31 10).toNat) s0) 35 ((I 31 10).toNat) (I 36 (x1.toNat))) 36 (x1.toNat) (I 31 10)) 31 10 ((I 31 10) + 1)) 32 (((I 31 10) + 1).toNat) x1), L) (0, 0) ?_
  refine And.intro (And.intro (sk_33 hs) (ixL (sl_33 hs) b103)) ?_
  refine hK.1 114 [some (vR 31), some (vI x1), some (vI x2), some (vI x3), none, some (vI s0)] [] (sh, (u2 (u2 (u2 (u2 (u2 (u2 (u2 (u2 I 32 ((I 31 10).toNat) x2) 33 ((I 31 10).toNat) x3) 34 ((I 31 10).toNat) s0) 35 ((I 31 10).toNat) (I 36 (x1.toNat))) 36 (x1.toNat) (I 31 10)) 31 10 ((I 31 10) + 1)) 32 (((I 31 10) + 1).toNat) x1) 33 (((I 31 10) + 1).toNat) 0), L) (0, 0) ?_
  refine hK.1 115 [some (vR 31), some (vI x1), some (vI x2), some (vI x3), none, some (vI s0)] [vR 31] (sh, (u2 (u2 (u2 (u2 (u2 (u2 (u2 (u2 I 32 ((I 31 10).toNat) x2) 33 ((I 31 10).toNat) x3) 34 ((I 31 10).toNat) s0) 35 ((I 31 10).toNat) (I 36 (x1.toNat))) 36 (x1.toNat) (I 31 10)) 31 10 ((I 31 10) + 1)) 32 (((I 31 10) + 1).toNat) x1) 33 (((I 31 10) + 1).toNat) 0), L) (0, 0) ?_
  refine And.intro (mem1 (sk_31 hs)) (Exists.intro 34 (And.intro (sr_31_2 hs) ?_))
  refine hK.1 118 [some (vR 31), some (vI x1), some (vI x2), some (vI x3), none, some (vI s0)] [vR 34] (sh, (u2 (u2 (u2 (u2 (u2 (u2 (u2 (u2 I 32 ((I 31 10).toNat) x2) 33 ((I 31 10).toNat) x3) 34 ((I 31 10).toNat) s0) 35 ((I 31 10).toNat) (I 36 (x1.toNat))) 36 (x1.toNat) (I 31 10)) 31 10 ((I 31 10) + 1)) 32 (((I 31 10) + 1).toNat) x1) 33 (((I 31 10) + 1).toNat) 0), L) (0, 0) ?_
  refine hK.1 119 [some (vR 31), some (vI x1), some (vI x2), some (vI x3), none, some (vI s0)] [vR 31, vR 34] (sh, (u2 (u2 (u2 (u2 (u2 (u2 (u2 (u2 I 32 ((I 31 10).toNat) x2) 33 ((I 31 10).toNat) x3) 34 ((I 31 10).toNat) s0) 35 ((I 31 10).toNat) (I 36 (x1.toNat))) 36 (x1.toNat) (I 31 10)) 31 10 ((I 31 10) + 1)) 32 (((I 31 10) + 1).toNat) x1) 33 (((I 31 10) + 1).toNat) 0), L) (0, 0) ?_
  refine And.intro (mem1 (sk_31 hs)) ?_
  refine hK.1 122 [some (vR 31), some (vI x1), some (vI x2), some (vI x3), none, some (vI s0)] [vI ((I 31 10) + 1), vR 34] (sh, (u2 (u2 (u2 (u2 (u2 (u2 (u2 (u2 I 32 ((I 31 10).toNat) x2) 33 ((I 31 10).toNat) x3) 34 ((I 31 10).toNat) s0) 35 ((I 31 10).toNat) (I 36 (x1.toNat))) 36 (x1.toNat) (I 31 10)) 31 10 ((I 31 10) + 1)) 32 (((I 31 10) + 1).toNat) x1) 33 (((I 31 10) + 1).toNat) 0), L) (0, 0) ?_
  refine hK.1 124 [some (vR 31), some (vI x1), some (vI x2), some (vI x3), none, some (vI s0)] [vI s0, vI ((I 31 10) + 1), vR 34] (sh, (u2 (u2 (u2 (u2 (u2 (u2 (u2 (u2 I 32 ((I 31 10).toNat) x2) 33 ((I 31 10).toNat) x3) 34 ((I 31 10).toNat) s0) 35 ((I 31 10).toNat) (I 36 (x1.toNat))) 36 (x1.toNat) (I 31 10)) 31 10 ((I 31 10) + 1)) 32 (((I 31 10) + 1).toNat) x1) 33 (((I 31 10) + 1).toNat) 0), L) (0, 0) ?_
  refine hK.1 125 [some (vR 31), some (vI x1), some (vI x2), some (vI x3), none, some (vI s0)] [vI (-s0), vI ((I 31 10) + 1), vR 34] (sh, (u2 (u2 (u2 (u2 (u2 (u2 (u2 (u2 I 32 ((I 31 10).toNat) x2) 33 ((I 31 10).toNat) x3) 34 ((I 31 10).toNat) s0) 35 ((I 31 10).toNat) (I 36 (x1.toNat))) 36 (x1.toNat) (I 31 10)) 31 10 ((I 31 10) + 1)) 32 (((I 31 10) + 1).toNat) x1) 33 (((I 31 10) + 1).toNat) 0), L) (0, 0) ?_
  refine And.intro (And.intro (sk_34 hs) (ixL (sl_34 hs) b103)) ?_
  refine hK.1 126 [some (vR 31), some (vI x1), some (vI x2), some (vI x3), none, some (vI s0)] [] (sh, (u2 (u2 (u2 (u2 (u2 (u2 (u2 (u2 (u2 I 32 ((I 31 10).toNat) x2) 33 ((I 31 10).toNat) x3) 34 ((I 31 10).toNat) s0) 35 ((I 31 10).toNat) (I 36 (x1.toNat))) 36 (x1.toNat) (I 31 10)) 31 10 ((I 31 10) + 1)) 32 (((I 31 10) + 1).toNat) x1) 33 (((I 31 10) + 1).toNat) 0) 34 (((I 31 10) + 1).toNat) (-s0)), L) (0, 0) ?_
  refine hK.1 127 [some (vR 31), some (vI x1), some (vI x2), some (vI x3), none, some (vI s0)] [vR 31] (sh, (u2 (u2 (u2 (u2 (u2 (u2 (u2 (u2 (u2 I 32 ((I 31 10).toNat) x2) 33 ((I 31 10).toNat) x3) 34 ((I 31 10).toNat) s0) 35 ((I 31 10).toNat) (I 36 (x1.toNat))) 36 (x1.toNat) (I 31 10)) 31 10 ((I 31 10) + 1)) 32 (((I 31 10) + 1).toNat) x1) 33 (((I 31 10) + 1).toNat) 0) 34 (((I 31 10) + 1).toNat) (-s0)), L) (0, 0) ?_
  refine And.intro (mem1 (sk_31 hs)) (Exists.intro 35 (And.intro (sr_31_3 hs) ?_))
  refine hK.1 130 [some (vR 31), some (vI x1), some (vI x2), some (vI x3), none, some (vI s0)] [vR 35] (sh, (u2 (u2 (u2 (u2 (u2 (u2 (u2 (u2 (u2 I 32 ((I 31 10).toNat) x2) 33 ((I 31 10).toNat) x3) 34 ((I 31 10).toNat) s0) 35 ((I 31 10).toNat) (I 36 (x1.toNat))) 36 (x1.toNat) (I 31 10)) 31 10 ((I 31 10) + 1)) 32 (((I 31 10) + 1).toNat) x1) 33 (((I 31 10) + 1).toNat) 0) 34 (((I 31 10) + 1).toNat) (-s0)), L) (0, 0) ?_
  refine hK.1 131 [some (vR 31), some (vI x1), some (vI x2), some (vI x3), none, some (vI s0)] [vR 31, vR 35] (sh, (u2 (u2 (u2 (u2 (u2 (u2 (u2 (u2 (u2 I 32 ((I 31 10).toNat) x2) 33 ((I 31 10).toNat) x3) 34 ((I 31 10).toNat) s0) 35 ((I 31 10).toNat) (I 36 (x1.toNat))) 36 (x1.toNat) (I 31 10)) 31 10 ((I 31 10) + 1)) 32 (((I 31 10) + 1).toNat) x1) 33 (((I 31 10) + 1).toNat) 0) 34 (((I 31 10) + 1).toNat) (-s0)), L) (0, 0) ?_
  refine And.intro (mem1 (sk_31 hs)) ?_
  refine hK.1 134 [some (vR 31), some (vI x1), some (vI x2), some (vI x3), none, some (vI s0)] [vI ((I 31 10) + 1), vR 35] (sh, (u2 (u2 (u2 (u2 (u2 (u2 (u2 (u2 (u2 I 32 ((I 31 10).toNat) x2) 33 ((I 31 10).toNat) x3) 34 ((I 31 10).toNat) s0) 35 ((I 31 10).toNat) (I 36 (x1.toNat))) 36 (x1.toNat) (I 31 10)) 31 10 ((I 31 10) + 1)) 32 (((I 31 10) + 1).toNat) x1) 33 (((I 31 10) + 1).toNat) 0) 34 (((I 31 10) + 1).toNat) (-s0)), L) (0, 0) ?_
  refine hK.1 135 [some (vR 31), some (vI x1), some (vI x2), some (vI x3), none, some (vI s0)] [vR 31, vI ((I 31 10) + 1), vR 35] (sh, (u2 (u2 (u2 (u2 (u2 (u2 (u2 (u2 (u2 I 32 ((I 31 10).toNat) x2) 33 ((I 31 10).toNat) x3) 34 ((I 31 10).toNat) s0) 35 ((I 31 10).toNat) (I 36 (x1.toNat))) 36 (x1.toNat) (I 31 10)) 31 10 ((I 31 10) + 1)) 32 (((I 31 10) + 1).toNat) x1) 33 (((I 31 10) + 1).toNat) 0) 34 (((I 31 10) + 1).toNat) (-s0)), L) (0, 0) ?_
  refine And.intro (mem1 (sk_31 hs)) (Exists.intro 36 (And.intro (sr_31_4 hs) ?_))
  refine hK.1 138 [some (vR 31), some (vI x1), some (vI x2), some (vI x3), none, some (vI s0)] [vR 36, vI ((I 31 10) + 1), vR 35] (sh, (u2 (u2 (u2 (u2 (u2 (u2 (u2 (u2 (u2 I 32 ((I 31 10).toNat) x2) 33 ((I 31 10).toNat) x3) 34 ((I 31 10).toNat) s0) 35 ((I 31 10).toNat) (I 36 (x1.toNat))) 36 (x1.toNat) (I 31 10)) 31 10 ((I 31 10) + 1)) 32 (((I 31 10) + 1).toNat) x1) 33 (((I 31 10) + 1).toNat) 0) 34 (((I 31 10) + 1).toNat) (-s0)), L) (0, 0) ?_
  refine hK.1 139 [some (vR 31), some (vI x1), some (vI x2), some (vI x3), none, some (vI s0)] [vI x2, vR 36, vI ((I 31 10) + 1), vR 35] (sh, (u2 (u2 (u2 (u2 (u2 (u2 (u2 (u2 (u2 I 32 ((I 31 10).toNat) x2) 33 ((I 31 10).toNat) x3) 34 ((I 31 10).toNat) s0) 35 ((I 31 10).toNat) (I 36 (x1.toNat))) 36 (x1.toNat) (I 31 10)) 31 10 ((I 31 10) + 1)) 32 (((I 31 10) + 1).toNat) x1) 33 (((I 31 10) + 1).toNat) 0) 34 (((I 31 10) + 1).toNat) (-s0)), L) (0, 0) ?_
  refine And.intro (And.intro (sk_36 hs) (ixL (sl_36 hs) b139)) ?_
  refine hK.1 140 [some (vR 31), some (vI x1), some (vI x2), some (vI x3), none, some (vI s0)] [vI ((u2 (u2 (u2 (u2 (u2 I 32 ((I 31 10).toNat) x2) 33 ((I 31 10).toNat) x3) 34 ((I 31 10).toNat) s0) 35 ((I 31 10).toNat) (I 36 (x1.toNat))) 36 (x1.toNat) (I 31 10)) 36 (x2.toNat)), vI ((I 31 10) + 1), vR 35] (sh, (u2 (u2 (u2 (u2 (u2 (u2 (u2 (u2 (u2 I 32 ((I 31 10).toNat) x2) 33 ((I 31 10).toNat) x3) 34 ((I 31 10).toNat) s0) 35 ((I 31 10).toNat) (I 36 (x1.toNat))) 36 (x1.toNat) (I 31 10)) 31 10 ((I 31 10) + 1)) 32 (((I 31 10) + 1).toNat) x1) 33 (((I 31 10) + 1).toNat) 0) 34 (((I 31 10) + 1).toNat) (-s0)), L) (0, 0) ?_
  refine And.intro (And.intro (sk_35 hs) (ixL (sl_35 hs) b103)) ?_
  refine hK.1 141 [some (vR 31), some (vI x1), some (vI x2), some (vI x3), none, some (vI s0)] [] (sh, (u2 (u2 (u2 (u2 (u2 (u2 (u2 (u2 (u2 (u2 I 32 ((I 31 10).toNat) x2) 33 ((I 31 10).toNat) x3) 34 ((I 31 10).toNat) s0) 35 ((I 31 10).toNat) (I 36 (x1.toNat))) 36 (x1.toNat) (I 31 10)) 31 10 ((I 31 10) + 1)) 32 (((I 31 10) + 1).toNat) x1) 33 (((I 31 10) + 1).toNat) 0) 34 (((I 31 10) + 1).toNat) (-s0)) 35 (((I 31 10) + 1).toNat) ((u2 (u2 (u2 (u2 (u2 I 32 ((I 31 10).toNat) x2) 33 ((I 31 10).toNat) x3) 34 ((I 31 10).toNat) s0) 35 ((I 31 10).toNat) (I 36 (x1.toNat))) 36 (x1.toNat) (I 31 10)) 36 (x2.toNat))), L) (0, 0) ?_
  refine hK.1 142 [some (vR 31), some (vI x1), some (vI x2), some (vI x3), none, some (vI s0)] [vR 31] (sh, (u2 (u2 (u2 (u2 (u2 (u2 (u2 (u2 (u2 (u2 I 32 ((I 31 10).toNat) x2) 33 ((I 31 10).toNat) x3) 34 ((I 31 10).toNat) s0) 35 ((I 31 10).toNat) (I 36 (x1.toNat))) 36 (x1.toNat) (I 31 10)) 31 10 ((I 31 10) + 1)) 32 (((I 31 10) + 1).toNat) x1) 33 (((I 31 10) + 1).toNat) 0) 34 (((I 31 10) + 1).toNat) (-s0)) 35 (((I 31 10) + 1).toNat) ((u2 (u2 (u2 (u2 (u2 I 32 ((I 31 10).toNat) x2) 33 ((I 31 10).toNat) x3) 34 ((I 31 10).toNat) s0) 35 ((I 31 10).toNat) (I 36 (x1.toNat))) 36 (x1.toNat) (I 31 10)) 36 (x2.toNat))), L) (0, 0) ?_
  refine And.intro (mem1 (sk_31 hs)) (Exists.intro 36 (And.intro (sr_31_4 hs) ?_))
  refine hK.1 145 [some (vR 31), some (vI x1), some (vI x2), some (vI x3), none, some (vI s0)] [vR 36] (sh, (u2 (u2 (u2 (u2 (u2 (u2 (u2 (u2 (u2 (u2 I 32 ((I 31 10).toNat) x2) 33 ((I 31 10).toNat) x3) 34 ((I 31 10).toNat) s0) 35 ((I 31 10).toNat) (I 36 (x1.toNat))) 36 (x1.toNat) (I 31 10)) 31 10 ((I 31 10) + 1)) 32 (((I 31 10) + 1).toNat) x1) 33 (((I 31 10) + 1).toNat) 0) 34 (((I 31 10) + 1).toNat) (-s0)) 35 (((I 31 10) + 1).toNat) ((u2 (u2 (u2 (u2 (u2 I 32 ((I 31 10).toNat) x2) 33 ((I 31 10).toNat) x3) 34 ((I 31 10).toNat) s0) 35 ((I 31 10).toNat) (I 36 (x1.toNat))) 36 (x1.toNat) (I 31 10)) 36 (x2.toNat))), L) (0, 0) ?_
  refine hK.1 146 [some (vR 31), some (vI x1), some (vI x2), some (vI x3), none, some (vI s0)] [vI x2, vR 36] (sh, (u2 (u2 (u2 (u2 (u2 (u2 (u2 (u2 (u2 (u2 I 32 ((I 31 10).toNat) x2) 33 ((I 31 10).toNat) x3) 34 ((I 31 10).toNat) s0) 35 ((I 31 10).toNat) (I 36 (x1.toNat))) 36 (x1.toNat) (I 31 10)) 31 10 ((I 31 10) + 1)) 32 (((I 31 10) + 1).toNat) x1) 33 (((I 31 10) + 1).toNat) 0) 34 (((I 31 10) + 1).toNat) (-s0)) 35 (((I 31 10) + 1).toNat) ((u2 (u2 (u2 (u2 (u2 I 32 ((I 31 10).toNat) x2) 33 ((I 31 10).toNat) x3) 34 ((I 31 10).toNat) s0) 35 ((I 31 10).toNat) (I 36 (x1.toNat))) 36 (x1.toNat) (I 31 10)) 36 (x2.toNat))), L) (0, 0) ?_
  refine hK.1 147 [some (vR 31), some (vI x1), some (vI x2), some (vI x3), none, some (vI s0)] [vR 31, vI x2, vR 36] (sh, (u2 (u2 (u2 (u2 (u2 (u2 (u2 (u2 (u2 (u2 I 32 ((I 31 10).toNat) x2) 33 ((I 31 10).toNat) x3) 34 ((I 31 10).toNat) s0) 35 ((I 31 10).toNat) (I 36 (x1.toNat))) 36 (x1.toNat) (I 31 10)) 31 10 ((I 31 10) + 1)) 32 (((I 31 10) + 1).toNat) x1) 33 (((I 31 10) + 1).toNat) 0) 34 (((I 31 10) + 1).toNat) (-s0)) 35 (((I 31 10) + 1).toNat) ((u2 (u2 (u2 (u2 (u2 I 32 ((I 31 10).toNat) x2) 33 ((I 31 10).toNat) x3) 34 ((I 31 10).toNat) s0) 35 ((I 31 10).toNat) (I 36 (x1.toNat))) 36 (x1.toNat) (I 31 10)) 36 (x2.toNat))), L) (0, 0) ?_
  refine And.intro (mem1 (sk_31 hs)) ?_
  refine hK.1 150 [some (vR 31), some (vI x1), some (vI x2), some (vI x3), none, some (vI s0)] [vI ((I 31 10) + 1), vI x2, vR 36] (sh, (u2 (u2 (u2 (u2 (u2 (u2 (u2 (u2 (u2 (u2 I 32 ((I 31 10).toNat) x2) 33 ((I 31 10).toNat) x3) 34 ((I 31 10).toNat) s0) 35 ((I 31 10).toNat) (I 36 (x1.toNat))) 36 (x1.toNat) (I 31 10)) 31 10 ((I 31 10) + 1)) 32 (((I 31 10) + 1).toNat) x1) 33 (((I 31 10) + 1).toNat) 0) 34 (((I 31 10) + 1).toNat) (-s0)) 35 (((I 31 10) + 1).toNat) ((u2 (u2 (u2 (u2 (u2 I 32 ((I 31 10).toNat) x2) 33 ((I 31 10).toNat) x3) 34 ((I 31 10).toNat) s0) 35 ((I 31 10).toNat) (I 36 (x1.toNat))) 36 (x1.toNat) (I 31 10)) 36 (x2.toNat))), L) (0, 0) ?_
  refine And.intro (And.intro (sk_36 hs) (ixL (sl_36 hs) b139)) ?_
  refine hK.1 151 [some (vR 31), some (vI x1), some (vI x2), some (vI x3), none, some (vI s0)] [] (sh, (u2 (u2 (u2 (u2 (u2 (u2 (u2 (u2 (u2 (u2 (u2 I 32 ((I 31 10).toNat) x2) 33 ((I 31 10).toNat) x3) 34 ((I 31 10).toNat) s0) 35 ((I 31 10).toNat) (I 36 (x1.toNat))) 36 (x1.toNat) (I 31 10)) 31 10 ((I 31 10) + 1)) 32 (((I 31 10) + 1).toNat) x1) 33 (((I 31 10) + 1).toNat) 0) 34 (((I 31 10) + 1).toNat) (-s0)) 35 (((I 31 10) + 1).toNat) ((u2 (u2 (u2 (u2 (u2 I 32 ((I 31 10).toNat) x2) 33 ((I 31 10).toNat) x3) 34 ((I 31 10).toNat) s0) 35 ((I 31 10).toNat) (I 36 (x1.toNat))) 36 (x1.toNat) (I 31 10)) 36 (x2.toNat))) 36 (x2.toNat) ((I 31 10) + 1)), L) (0, 0) ?_
  refine hK.1 152 [some (vR 31), some (vI x1), some (vI x2), some (vI x3), none, some (vI s0)] [vR 31] (sh, (u2 (u2 (u2 (u2 (u2 (u2 (u2 (u2 (u2 (u2 (u2 I 32 ((I 31 10).toNat) x2) 33 ((I 31 10).toNat) x3) 34 ((I 31 10).toNat) s0) 35 ((I 31 10).toNat) (I 36 (x1.toNat))) 36 (x1.toNat) (I 31 10)) 31 10 ((I 31 10) + 1)) 32 (((I 31 10) + 1).toNat) x1) 33 (((I 31 10) + 1).toNat) 0) 34 (((I 31 10) + 1).toNat) (-s0)) 35 (((I 31 10) + 1).toNat) ((u2 (u2 (u2 (u2 (u2 I 32 ((I 31 10).toNat) x2) 33 ((I 31 10).toNat) x3) 34 ((I 31 10).toNat) s0) 35 ((I 31 10).toNat) (I 36 (x1.toNat))) 36 (x1.toNat) (I 31 10)) 36 (x2.toNat))) 36 (x2.toNat) ((I 31 10) + 1)), L) (0, 0) ?_
  refine hK.1 153 [some (vR 31), some (vI x1), some (vI x2), some (vI x3), none, some (vI s0)] [vR 31, vR 31] (sh, (u2 (u2 (u2 (u2 (u2 (u2 (u2 (u2 (u2 (u2 (u2 I 32 ((I 31 10).toNat) x2) 33 ((I 31 10).toNat) x3) 34 ((I 31 10).toNat) s0) 35 ((I 31 10).toNat) (I 36 (x1.toNat))) 36 (x1.toNat) (I 31 10)) 31 10 ((I 31 10) + 1)) 32 (((I 31 10) + 1).toNat) x1) 33 (((I 31 10) + 1).toNat) 0) 34 (((I 31 10) + 1).toNat) (-s0)) 35 (((I 31 10) + 1).toNat) ((u2 (u2 (u2 (u2 (u2 I 32 ((I 31 10).toNat) x2) 33 ((I 31 10).toNat) x3) 34 ((I 31 10).toNat) s0) 35 ((I 31 10).toNat) (I 36 (x1.toNat))) 36 (x1.toNat) (I 31 10)) 36 (x2.toNat))) 36 (x2.toNat) ((I 31 10) + 1)), L) (0, 0) ?_
  refine And.intro (mem1 (sk_31 hs)) ?_
  refine hK.1 156 [some (vR 31), some (vI x1), some (vI x2), some (vI x3), none, some (vI s0)] [vI ((I 31 10) + 1), vR 31] (sh, (u2 (u2 (u2 (u2 (u2 (u2 (u2 (u2 (u2 (u2 (u2 I 32 ((I 31 10).toNat) x2) 33 ((I 31 10).toNat) x3) 34 ((I 31 10).toNat) s0) 35 ((I 31 10).toNat) (I 36 (x1.toNat))) 36 (x1.toNat) (I 31 10)) 31 10 ((I 31 10) + 1)) 32 (((I 31 10) + 1).toNat) x1) 33 (((I 31 10) + 1).toNat) 0) 34 (((I 31 10) + 1).toNat) (-s0)) 35 (((I 31 10) + 1).toNat) ((u2 (u2 (u2 (u2 (u2 I 32 ((I 31 10).toNat) x2) 33 ((I 31 10).toNat) x3) 34 ((I 31 10).toNat) s0) 35 ((I 31 10).toNat) (I 36 (x1.toNat))) 36 (x1.toNat) (I 31 10)) 36 (x2.toNat))) 36 (x2.toNat) ((I 31 10) + 1)), L) (0, 0) ?_
  refine hK.1 157 [some (vR 31), some (vI x1), some (vI x2), some (vI x3), none, some (vI s0)] [vI 1, vI ((I 31 10) + 1), vR 31] (sh, (u2 (u2 (u2 (u2 (u2 (u2 (u2 (u2 (u2 (u2 (u2 I 32 ((I 31 10).toNat) x2) 33 ((I 31 10).toNat) x3) 34 ((I 31 10).toNat) s0) 35 ((I 31 10).toNat) (I 36 (x1.toNat))) 36 (x1.toNat) (I 31 10)) 31 10 ((I 31 10) + 1)) 32 (((I 31 10) + 1).toNat) x1) 33 (((I 31 10) + 1).toNat) 0) 34 (((I 31 10) + 1).toNat) (-s0)) 35 (((I 31 10) + 1).toNat) ((u2 (u2 (u2 (u2 (u2 I 32 ((I 31 10).toNat) x2) 33 ((I 31 10).toNat) x3) 34 ((I 31 10).toNat) s0) 35 ((I 31 10).toNat) (I 36 (x1.toNat))) 36 (x1.toNat) (I 31 10)) 36 (x2.toNat))) 36 (x2.toNat) ((I 31 10) + 1)), L) (0, 0) ?_
  refine hK.1 158 [some (vR 31), some (vI x1), some (vI x2), some (vI x3), none, some (vI s0)] [vI (((I 31 10) + 1) + 1), vR 31] (sh, (u2 (u2 (u2 (u2 (u2 (u2 (u2 (u2 (u2 (u2 (u2 I 32 ((I 31 10).toNat) x2) 33 ((I 31 10).toNat) x3) 34 ((I 31 10).toNat) s0) 35 ((I 31 10).toNat) (I 36 (x1.toNat))) 36 (x1.toNat) (I 31 10)) 31 10 ((I 31 10) + 1)) 32 (((I 31 10) + 1).toNat) x1) 33 (((I 31 10) + 1).toNat) 0) 34 (((I 31 10) + 1).toNat) (-s0)) 35 (((I 31 10) + 1).toNat) ((u2 (u2 (u2 (u2 (u2 I 32 ((I 31 10).toNat) x2) 33 ((I 31 10).toNat) x3) 34 ((I 31 10).toNat) s0) 35 ((I 31 10).toNat) (I 36 (x1.toNat))) 36 (x1.toNat) (I 31 10)) 36 (x2.toNat))) 36 (x2.toNat) ((I 31 10) + 1)), L) (0, 0) ?_
  refine And.intro (mem1 (sk_31 hs)) ?_
  refine hK.1 161 [some (vR 31), some (vI x1), some (vI x2), some (vI x3), none, some (vI s0)] [] (sh, (u2 (u2 (u2 (u2 (u2 (u2 (u2 (u2 (u2 (u2 (u2 (u2 I 32 ((I 31 10).toNat) x2) 33 ((I 31 10).toNat) x3) 34 ((I 31 10).toNat) s0) 35 ((I 31 10).toNat) (I 36 (x1.toNat))) 36 (x1.toNat) (I 31 10)) 31 10 ((I 31 10) + 1)) 32 (((I 31 10) + 1).toNat) x1) 33 (((I 31 10) + 1).toNat) 0) 34 (((I 31 10) + 1).toNat) (-s0)) 35 (((I 31 10) + 1).toNat) ((u2 (u2 (u2 (u2 (u2 I 32 ((I 31 10).toNat) x2) 33 ((I 31 10).toNat) x3) 34 ((I 31 10).toNat) s0) 35 ((I 31 10).toNat) (I 36 (x1.toNat))) 36 (x1.toNat) (I 31 10)) 36 (x2.toNat))) 36 (x2.toNat) ((I 31 10) + 1)) 31 10 (((I 31 10) + 1) + 1)), L) (0, 0) ?_
  exact And.intro rfl (And.intro ⟨by decide, by decide⟩ k)
set_option maxRecDepth 4000 in
theorem B_X7_addNode_0 {Q : oQ} {K : oK} (hK : oCl tb_X7_addNode Q K) {sh : oS} (hs : Sh sh) {I : Nat → Nat → Int} {L : Nat → Nat → Int64}  (n7a : inR (I 31 9)) (kt : 324 ≤ I 31 9 → K 20 [some (vR 31)] [] (sh, I, L) (0, 0)) (kf : ¬ (324 ≤ I 31 9) → K 10 [some (vR 31)] [] (sh, I, L) (0, 0)) : K 0 [some (vR 31)] [] (sh, I, L) (0, 0) := by
  refine hK.1 0 [some (vR 31)] [] (sh, I, L) (0, 0) ?_
  refine hK.1 1 [some (vR 31)] [vR 31] (sh, I, L) (0, 0) ?_
  refine And.intro (mem1 (sk_31 hs)) ?_
  refine hK.1 4 [some (vR 31)] [vI (I 31 9)] (sh, I, L) (0, 0) ?_
  refine hK.1 7 [some (vR 31)] [vI 324, vI (I 31 9)] (sh, I, L) (0, 0) ?_
  exact And.intro (And.intro n7a ⟨by decide, by decide⟩) (And.intro (fun h => hK.2 [true] _ _ _ _ _ (kt h)) (fun h => hK.2 [true] _ _ _ _ _ (kf h)))
set_option maxRecDepth 4000 in
theorem B_X7_addNode_10 {Q : oQ} {K : oK} (hK : oCl tb_X7_addNode Q K) {sh : oS} (hs : Sh sh) {I : Nat → Nat → Int} {L : Nat → Nat → Int64}  (k : K 20 [some (vR 31)] [] (sh, (u2 I 31 9 ((I 31 9) + 1)), L) (0, 0)) : K 10 [some (vR 31)] [] (sh, I, L) (0, 0) := by
  refine hK.1 10 [some (vR 31)] [] (sh, I, L) (0, 0) ?_
  refine hK.1 11 [some (vR 31)] [vR 31] (sh, I, L) (0, 0) ?_
  refine hK.1 12 [some (vR 31)] [vR 31, vR 31] (sh, I, L) (0, 0) ?_
  refine And.intro (mem1 (sk_31 hs)) ?_
  refine hK.1 15 [some (vR 31)] [vI (I 31 9), vR 31] (sh, I, L) (0, 0) ?_
  refine hK.1 16 [some (vR 31)] [vI 1, vI (I 31 9), vR 31] (sh, I, L) (0, 0) ?_
  refine hK.1 17 [some (vR 31)] [vI ((I 31 9) + 1), vR 31] (sh, I, L) (0, 0) ?_
  refine And.intro (mem1 (sk_31 hs)) ?_
  exact k
set_option maxRecDepth 4000 in
theorem B_X7_addNode_20 {Q : oQ} {K : oK} (hK : oCl tb_X7_addNode Q K) {sh : oS} (hs : Sh sh) {I : Nat → Nat → Int} {L : Nat → Nat → Int64}  (k : Q (some (vI ((I 31 9) - 1))) (sh, I, L)) : K 20 [some (vR 31)] [] (sh, I, L) (0, 0) := by
  refine hK.1 20 [some (vR 31)] [] (sh, I, L) (0, 0) ?_
  refine hK.1 21 [some (vR 31)] [vR 31] (sh, I, L) (0, 0) ?_
  refine And.intro (mem1 (sk_31 hs)) ?_
  refine hK.1 24 [some (vR 31)] [vI (I 31 9)] (sh, I, L) (0, 0) ?_
  refine hK.1 25 [some (vR 31)] [vI 1, vI (I 31 9)] (sh, I, L) (0, 0) ?_
  refine hK.1 26 [some (vR 31)] [vI ((I 31 9) - 1)] (sh, I, L) (0, 0) ?_
  exact And.intro ⟨by decide, by decide⟩ k
set_option maxRecDepth 4000 in
theorem B_X2_lay_0 {Q : oQ} {K : oK} (hK : oCl tb_X2_lay Q K) {sh : oS} (hs : Sh sh) {I : Nat → Nat → Int} {L : Nat → Nat → Int64} {h1 : Nat} {h2 : Nat} {x3 : Int} {x4 : Int} {h1f h1w : Nat} {h2e h2p h2t : Nat} (Ah1 : LandAt sh h1 h1f h1w) (k : T_X6_walk [vR h2, vI (I h1 0), vI x3, vR 29] (sh, I, L) (fun r mm => K 13 [some (vR 24), some (vR h1), some (vR h2), none, some (vI x4), none, none, none, none, none, none, none, none, none] (r.toList ++ []) mm (0, 0))) (Ah2 : MarchAt sh h2 h2e h2p h2t) : K 0 [some (vR 24), some (vR h1), some (vR h2), some (vI x3), some (vI x4), none, none, none, none, none, none, none, none, none] [] (sh, I, L) (0, 0) := by
  refine hK.1 0 [some (vR 24), some (vR h1), some (vR h2), some (vI x3), some (vI x4), none, none, none, none, none, none, none, none, none] [] (sh, I, L) (0, 0) ?_
  refine hK.1 1 [some (vR 24), some (vR h1), some (vR h2), some (vI x3), some (vI x4), none, none, none, none, none, none, none, none, none] [vR h2] (sh, I, L) (0, 0) ?_
  refine hK.1 2 [some (vR 24), some (vR h1), some (vR h2), some (vI x3), some (vI x4), none, none, none, none, none, none, none, none, none] [vR h1, vR h2] (sh, I, L) (0, 0) ?_
  refine And.intro (mem1 Ah1.1) ?_
  refine hK.1 5 [some (vR 24), some (vR h1), some (vR h2), some (vI x3), some (vI x4), none, none, none, none, none, none, none, none, none] [vI (I h1 0), vR h2] (sh, I, L) (0, 0) ?_
  refine hK.1 6 [some (vR 24), some (vR h1), some (vR h2), some (vI x3), some (vI x4), none, none, none, none, none, none, none, none, none] [vI x3, vI (I h1 0), vR h2] (sh, I, L) (0, 0) ?_
  refine hK.1 7 [some (vR 24), some (vR h1), some (vR h2), some (vI x3), some (vI x4), none, none, none, none, none, none, none, none, none] [vR 24, vI x3, vI (I h1 0), vR h2] (sh, I, L) (0, 0) ?_
  refine And.intro (mem1 (sk_24 hs)) (Exists.intro 29 (And.intro (sr_24_1 hs) ?_))
  refine hK.2 [true, true, true, false, true, false, false, false, false, false, false, false, false, false] _ _ _ _ _ ?_
  refine hK.1 10 [some (vR 24), some (vR h1), some (vR h2), none, some (vI x4), none, none, none, none, none, none, none, none, none] [vR 29, vI x3, vI (I h1 0), vR h2] (sh, I, L) (0, 0) ?_
  exact And.intro ⟨Ah2.1, Nat.le_of_ble_eq_true rfl, Nat.le_of_ble_eq_true rfl, Nat.le_of_ble_eq_true rfl, Nat.le_of_ble_eq_true rfl⟩ k
set_option maxRecDepth 4000 in
theorem B_X2_lay_13 {Q : oQ} {K : oK} (hK : oCl tb_X2_lay Q K) {sh : oS} (hs : Sh sh) {I : Nat → Nat → Int} {L : Nat → Nat → Int64} {h1 : Nat} {h2 : Nat} {x4 : Int} {h1f h1w : Nat} (Ah1 : LandAt sh h1 h1f h1w) (k : T_X2_countBaking [vR 24, vI (I h1 4), vI x4] (sh, I, L) (fun r mm => K 23 [some (vR 24), some (vR h1), some (vR h2), none, some (vI x4), none, none, none, none, none, none, none, none, none] (r.toList ++ []) mm (0, 0))) : K 13 [some (vR 24), some (vR h1), some (vR h2), none, some (vI x4), none, none, none, none, none, none, none, none, none] [] (sh, I, L) (0, 0) := by
  refine hK.1 13 [some (vR 24), some (vR h1), some (vR h2), none, some (vI x4), none, none, none, none, none, none, none, none, none] [] (sh, I, L) (0, 0) ?_
  refine hK.1 14 [some (vR 24), some (vR h1), some (vR h2), none, some (vI x4), none, none, none, none, none, none, none, none, none] [vR 24] (sh, I, L) (0, 0) ?_
  refine hK.1 15 [some (vR 24), some (vR h1), some (vR h2), none, some (vI x4), none, none, none, none, none, none, none, none, none] [vR h1, vR 24] (sh, I, L) (0, 0) ?_
  refine And.intro (mem1 Ah1.1) ?_
  refine hK.1 18 [some (vR 24), some (vR h1), some (vR h2), none, some (vI x4), none, none, none, none, none, none, none, none, none] [vI (I h1 4), vR 24] (sh, I, L) (0, 0) ?_
  refine hK.1 20 [some (vR 24), some (vR h1), some (vR h2), none, some (vI x4), none, none, none, none, none, none, none, none, none] [vI x4, vI (I h1 4), vR 24] (sh, I, L) (0, 0) ?_
  exact And.intro ⟨(sk_24 hs), Nat.le_of_ble_eq_true rfl, Nat.le_of_ble_eq_true rfl, Nat.le_of_ble_eq_true rfl, Nat.le_of_ble_eq_true rfl⟩ k
set_option maxRecDepth 4000 in
theorem B_X2_lay_23 {Q : oQ} {K : oK} (hK : oCl tb_X2_lay Q K) {sh : oS} {I : Nat → Nat → Int} {L : Nat → Nat → Int64} {h1 : Nat} {h2 : Nat} {x4 : Int} (k : K 26 [some (vR 24), some (vR h1), some (vR h2), none, some (vI x4), some (vI 0), none, none, none, none, none, none, none, none] [] (sh, I, L) (0, 0)) : K 23 [some (vR 24), some (vR h1), some (vR h2), none, some (vI x4), none, none, none, none, none, none, none, none, none] [] (sh, I, L) (0, 0) := by
  refine hK.1 23 [some (vR 24), some (vR h1), some (vR h2), none, some (vI x4), none, none, none, none, none, none, none, none, none] [] (sh, I, L) (0, 0) ?_
  refine hK.1 24 [some (vR 24), some (vR h1), some (vR h2), none, some (vI x4), none, none, none, none, none, none, none, none, none] [vI 0] (sh, I, L) (0, 0) ?_
  exact k
set_option maxRecDepth 4000 in
theorem B_X2_lay_26 {Q : oQ} {K : oK} (hK : oCl tb_X2_lay Q K) {sh : oS} {I : Nat → Nat → Int} {L : Nat → Nat → Int64} {h1 : Nat} {h2 : Nat} {x4 : Int} {x5 : Int} {h1f h1w : Nat} (Ah1 : LandAt sh h1 h1f h1w) (n32a : inR x5) (n32b : inR (I h1 0)) (kt : I h1 0 ≤ x5 → K 61 [some (vR 24), some (vR h1), some (vR h2), none, some (vI x4), none, none, none, none, none, none, none, none, none] [] (sh, I, L) (0, 0)) (kf : ¬ (I h1 0 ≤ x5) → K 35 [some (vR 24), some (vR h1), some (vR h2), none, some (vI x4), some (vI x5), none, none, none, none, none, none, none, none] [] (sh, I, L) (0, 0)) : K 26 [some (vR 24), some (vR h1), some (vR h2), none, some (vI x4), some (vI x5), none, none, none, none, none, none, none, none] [] (sh, I, L) (0, 0) := by
  refine hK.1 26 [some (vR 24), some (vR h1), some (vR h2), none, some (vI x4), some (vI x5), none, none, none, none, none, none, none, none] [] (sh, I, L) (0, 0) ?_
  refine hK.1 28 [some (vR 24), some (vR h1), some (vR h2), none, some (vI x4), some (vI x5), none, none, none, none, none, none, none, none] [vI x5] (sh, I, L) (0, 0) ?_
  refine hK.1 29 [some (vR 24), some (vR h1), some (vR h2), none, some (vI x4), some (vI x5), none, none, none, none, none, none, none, none] [vR h1, vI x5] (sh, I, L) (0, 0) ?_
  refine And.intro (mem1 Ah1.1) ?_
  refine hK.1 32 [some (vR 24), some (vR h1), some (vR h2), none, some (vI x4), some (vI x5), none, none, none, none, none, none, none, none] [vI (I h1 0), vI x5] (sh, I, L) (0, 0) ?_
  exact And.intro (And.intro n32a n32b) (And.intro (fun h => hK.2 [true, true, true, false, true, false, false, false, false, false, false, false, false, false] _ _ _ _ _ (kt h)) (fun h => hK.2 [true, true, true, false, true, true, false, false, false, false, false, false, false, false] _ _ _ _ _ (kf h)))
set_option maxRecDepth 4000 in
theorem B_X2_lay_35 {Q : oQ} {K : oK} (hK : oCl tb_X2_lay Q K) {sh : oS} (hs : Sh sh) {I : Nat → Nat → Int} {L : Nat → Nat → Int64} {h1 : Nat} {h2 : Nat} {x4 : Int} {x5 : Int} {h1f h1w : Nat} (Ah1 : LandAt sh h1 h1f h1w) (b50 : 0 ≤ x5 ∧ x5 < 8) (k : T_X7_edge [vR 31, vI 0, vI (2 + x5), vI (I h1f (x5.toNat)), vI 0] (sh, I, L) (fun r mm => K 55 [some (vR 24), some (vR h1), some (vR h2), none, some (vI x4), some (vI x5), none, none, none, none, none, none, none, none] (r.toList ++ []) mm (0, 0))) : K 35 [some (vR 24), some (vR h1), some (vR h2), none, some (vI x4), some (vI x5), none, none, none, none, none, none, none, none] [] (sh, I, L) (0, 0) := by
  refine hK.1 35 [some (vR 24), some (vR h1), some (vR h2), none, some (vI x4), some (vI x5), none, none, none, none, none, none, none, none] [] (sh, I, L) (0, 0) ?_
  refine hK.1 36 [some (vR 24), some (vR h1), some (vR h2), none, some (vI x4), some (vI x5), none, none, none, none, none, none, none, none] [vR 24] (sh, I, L) (0, 0) ?_
  refine And.intro (mem1 (sk_24 hs)) (Exists.intro 31 (And.intro (sr_24_3 hs) ?_))
  refine hK.1 39 [some (vR 24), some (vR h1), some (vR h2), none, some (vI x4), some (vI x5), none, none, none, none, none, none, none, none] [vR 31] (sh, I, L) (0, 0) ?_
  refine hK.1 40 [some (vR 24), some (vR h1), some (vR h2), none, some (vI x4), some (vI x5), none, none, none, none, none, none, none, none] [vI 0, vR 31] (sh, I, L) (0, 0) ?_
  refine hK.1 41 [some (vR 24), some (vR h1), some (vR h2), none, some (vI x4), some (vI x5), none, none, none, none, none, none, none, none] [vI 2, vI 0, vR 31] (sh, I, L) (0, 0) ?_
  refine hK.1 43 [some (vR 24), some (vR h1), some (vR h2), none, some (vI x4), some (vI x5), none, none, none, none, none, none, none, none] [vI x5, vI 2, vI 0, vR 31] (sh, I, L) (0, 0) ?_
  refine hK.1 44 [some (vR 24), some (vR h1), some (vR h2), none, some (vI x4), some (vI x5), none, none, none, none, none, none, none, none] [vI (2 + x5), vI 0, vR 31] (sh, I, L) (0, 0) ?_
  refine hK.1 45 [some (vR 24), some (vR h1), some (vR h2), none, some (vI x4), some (vI x5), none, none, none, none, none, none, none, none] [vR h1, vI (2 + x5), vI 0, vR 31] (sh, I, L) (0, 0) ?_
  refine And.intro (mem1 Ah1.1) (Exists.intro h1f (And.intro Ah1.2.1 ?_))
  refine hK.1 48 [some (vR 24), some (vR h1), some (vR h2), none, some (vI x4), some (vI x5), none, none, none, none, none, none, none, none] [vR h1f, vI (2 + x5), vI 0, vR 31] (sh, I, L) (0, 0) ?_
  refine hK.1 50 [some (vR 24), some (vR h1), some (vR h2), none, some (vI x4), some (vI x5), none, none, none, none, none, none, none, none] [vI x5, vR h1f, vI (2 + x5), vI 0, vR 31] (sh, I, L) (0, 0) ?_
  refine And.intro (And.intro (Ah1.2.2.2.1.1) (ixL (Ah1.2.2.2.1.2) b50)) ?_
  refine hK.1 51 [some (vR 24), some (vR h1), some (vR h2), none, some (vI x4), some (vI x5), none, none, none, none, none, none, none, none] [vI (I h1f (x5.toNat)), vI (2 + x5), vI 0, vR 31] (sh, I, L) (0, 0) ?_
  refine hK.1 52 [some (vR 24), some (vR h1), some (vR h2), none, some (vI x4), some (vI x5), none, none, none, none, none, none, none, none] [vI 0, vI (I h1f (x5.toNat)), vI (2 + x5), vI 0, vR 31] (sh, I, L) (0, 0) ?_
  exact And.intro ⟨(sk_31 hs), Nat.le_of_ble_eq_true rfl, Nat.le_of_ble_eq_true rfl, Nat.le_of_ble_eq_true rfl, Nat.le_of_ble_eq_true rfl⟩ k
set_option maxRecDepth 4000 in
theorem B_X2_lay_55 {Q : oQ} {K : oK} (hK : oCl tb_X2_lay Q K) {sh : oS} {I : Nat → Nat → Int} {L : Nat → Nat → Int64} {h1 : Nat} {h2 : Nat} {x4 : Int} {x5 : Int} (k : K 26 [some (vR 24), some (vR h1), some (vR h2), none, some (vI x4), some (vI (x5 + 1)), none, none, none, none, none, none, none, none] [] (sh, I, L) (0, 0)) : K 55 [some (vR 24), some (vR h1), some (vR h2), none, some (vI x4), some (vI x5), none, none, none, none, none, none, none, none] [] (sh, I, L) (0, 0) := by
  refine hK.1 55 [some (vR 24), some (vR h1), some (vR h2), none, some (vI x4), some (vI x5), none, none, none, none, none, none, none, none] [] (sh, I, L) (0, 0) ?_
  refine hK.1 58 [some (vR 24), some (vR h1), some (vR h2), none, some (vI x4), some (vI (x5 + 1)), none, none, none, none, none, none, none, none] [] (sh, I, L) (0, 0) ?_
  exact k
set_option maxRecDepth 4000 in
theorem B_X2_lay_61 {Q : oQ} {K : oK} (hK : oCl tb_X2_lay Q K) {sh : oS} {I : Nat → Nat → Int} {L : Nat → Nat → Int64} {h1 : Nat} {h2 : Nat} {x4 : Int} (k : K 64 [some (vR 24), some (vR h1), some (vR h2), none, some (vI x4), some (vI 0), none, none, none, none, none, none, none, none] [] (sh, I, L) (0, 0)) : K 61 [some (vR 24), some (vR h1), some (vR h2), none, some (vI x4), none, none, none, none, none, none, none, none, none] [] (sh, I, L) (0, 0) := by
  refine hK.1 61 [some (vR 24), some (vR h1), some (vR h2), none, some (vI x4), none, none, none, none, none, none, none, none, none] [] (sh, I, L) (0, 0) ?_
  refine hK.1 62 [some (vR 24), some (vR h1), some (vR h2), none, some (vI x4), none, none, none, none, none, none, none, none, none] [vI 0] (sh, I, L) (0, 0) ?_
  exact k
set_option maxRecDepth 4000 in
theorem B_X2_lay_64 {Q : oQ} {K : oK} (hK : oCl tb_X2_lay Q K) {sh : oS} (hs : Sh sh) {I : Nat → Nat → Int} {L : Nat → Nat → Int64} {h1 : Nat} {h2 : Nat} {x4 : Int} {x5 : Int} (n71a : inR x5) (n71b : inR (sL sh 30 : Int)) (kt : (sL sh 30 : Int) ≤ x5 → K 278 [none, none, none, none, none, none, none, none, none, none, none, none, none, none] [] (sh, I, L) (0, 0)) (kf : ¬ ((sL sh 30 : Int) ≤ x5) → K 74 [some (vR 24), some (vR h1), some (vR h2), none, some (vI x4), some (vI x5), none, none, none, none, none, none, none, none] [] (sh, I, L) (0, 0)) : K 64 [some (vR 24), some (vR h1), some (vR h2), none, some (vI x4), some (vI x5), none, none, none, none, none, none, none, none] [] (sh, I, L) (0, 0) := by
  refine hK.1 64 [some (vR 24), some (vR h1), some (vR h2), none, some (vI x4), some (vI x5), none, none, none, none, none, none, none, none] [] (sh, I, L) (0, 0) ?_
  refine hK.1 66 [some (vR 24), some (vR h1), some (vR h2), none, some (vI x4), some (vI x5), none, none, none, none, none, none, none, none] [vI x5] (sh, I, L) (0, 0) ?_
  refine hK.1 67 [some (vR 24), some (vR h1), some (vR h2), none, some (vI x4), some (vI x5), none, none, none, none, none, none, none, none] [vR 24, vI x5] (sh, I, L) (0, 0) ?_
  refine And.intro (mem1 (sk_24 hs)) (Exists.intro 30 (And.intro (sr_24_2 hs) ?_))
  refine hK.1 70 [some (vR 24), some (vR h1), some (vR h2), none, some (vI x4), some (vI x5), none, none, none, none, none, none, none, none] [vR 30, vI x5] (sh, I, L) (0, 0) ?_
  refine And.intro (by rw [show sK sh 30 = 13 from sk_30 hs]; exact ⟨by decide, by decide⟩) ?_
  refine hK.1 71 [some (vR 24), some (vR h1), some (vR h2), none, some (vI x4), some (vI x5), none, none, none, none, none, none, none, none] [vI (sL sh 30 : Int), vI x5] (sh, I, L) (0, 0) ?_
  exact And.intro (And.intro n71a n71b) (And.intro (fun h => hK.2 [false, false, false, false, false, false, false, false, false, false, false, false, false, false] _ _ _ _ _ (kt h)) (fun h => hK.2 [true, true, true, false, true, true, false, false, false, false, false, false, false, false] _ _ _ _ _ (kf h)))
set_option maxRecDepth 4000 in
theorem B_X2_lay_74 {Q : oQ} {K : oK} (hK : oCl tb_X2_lay Q K) {sh : oS} (hs : Sh sh) {I : Nat → Nat → Int} {L : Nat → Nat → Int64} {h1 : Nat} {h2 : Nat} {x4 : Int} {x5 : Int} {h1f h1w : Nat} (b80 : 0 ≤ x5 ∧ x5 < 152) (Ah1 : LandAt sh h1 h1f h1w) (n90 : inR ((I 30 (x5.toNat)) * (I h1 3))) (kt : ¬ (I 30 (x5.toNat)) * (I h1 3) = 0 → K 96 [some (vR 24), some (vR h1), some (vR h2), none, some (vI x4), some (vI x5), some (vI ((I 30 (x5.toNat)) * (I h1 3))), none, none, none, none, none, none, none] [] (sh, I, L) (0, 0)) (kf : ¬ (¬ (I 30 (x5.toNat)) * (I h1 3) = 0) → K 93 [some (vR 24), some (vR h1), some (vR h2), none, some (vI x4), some (vI x5), none, none, none, none, none, none, none, none] [] (sh, I, L) (0, 0)) : K 74 [some (vR 24), some (vR h1), some (vR h2), none, some (vI x4), some (vI x5), none, none, none, none, none, none, none, none] [] (sh, I, L) (0, 0) := by
  refine hK.1 74 [some (vR 24), some (vR h1), some (vR h2), none, some (vI x4), some (vI x5), none, none, none, none, none, none, none, none] [] (sh, I, L) (0, 0) ?_
  refine hK.1 75 [some (vR 24), some (vR h1), some (vR h2), none, some (vI x4), some (vI x5), none, none, none, none, none, none, none, none] [vR 24] (sh, I, L) (0, 0) ?_
  refine And.intro (mem1 (sk_24 hs)) (Exists.intro 30 (And.intro (sr_24_2 hs) ?_))
  refine hK.1 78 [some (vR 24), some (vR h1), some (vR h2), none, some (vI x4), some (vI x5), none, none, none, none, none, none, none, none] [vR 30] (sh, I, L) (0, 0) ?_
  refine hK.1 80 [some (vR 24), some (vR h1), some (vR h2), none, some (vI x4), some (vI x5), none, none, none, none, none, none, none, none] [vI x5, vR 30] (sh, I, L) (0, 0) ?_
  refine And.intro (And.intro (sk_30 hs) (ixL (sl_30 hs) b80)) ?_
  refine hK.1 81 [some (vR 24), some (vR h1), some (vR h2), none, some (vI x4), some (vI x5), none, none, none, none, none, none, none, none] [vI (I 30 (x5.toNat))] (sh, I, L) (0, 0) ?_
  refine hK.1 82 [some (vR 24), some (vR h1), some (vR h2), none, some (vI x4), some (vI x5), none, none, none, none, none, none, none, none] [vR h1, vI (I 30 (x5.toNat))] (sh, I, L) (0, 0) ?_
  refine And.intro (mem1 Ah1.1) ?_
  refine hK.1 85 [some (vR 24), some (vR h1), some (vR h2), none, some (vI x4), some (vI x5), none, none, none, none, none, none, none, none] [vI (I h1 3), vI (I 30 (x5.toNat))] (sh, I, L) (0, 0) ?_
  refine hK.1 86 [some (vR 24), some (vR h1), some (vR h2), none, some (vI x4), some (vI x5), none, none, none, none, none, none, none, none] [vI ((I 30 (x5.toNat)) * (I h1 3))] (sh, I, L) (0, 0) ?_
  refine hK.1 88 [some (vR 24), some (vR h1), some (vR h2), none, some (vI x4), some (vI x5), some (vI ((I 30 (x5.toNat)) * (I h1 3))), none, none, none, none, none, none, none] [] (sh, I, L) (0, 0) ?_
  refine hK.1 90 [some (vR 24), some (vR h1), some (vR h2), none, some (vI x4), some (vI x5), some (vI ((I 30 (x5.toNat)) * (I h1 3))), none, none, none, none, none, none, none] [vI ((I 30 (x5.toNat)) * (I h1 3))] (sh, I, L) (0, 0) ?_
  exact And.intro (n90) (And.intro (fun h => hK.2 [true, true, true, false, true, true, true, false, false, false, false, false, false, false] _ _ _ _ _ (kt h)) (fun h => hK.2 [true, true, true, false, true, true, false, false, false, false, false, false, false, false] _ _ _ _ _ (kf h)))
set_option maxRecDepth 4000 in
theorem B_X2_lay_93 {Q : oQ} {K : oK} (hK : oCl tb_X2_lay Q K) {sh : oS} {I : Nat → Nat → Int} {L : Nat → Nat → Int64} {h1 : Nat} {h2 : Nat} {x4 : Int} {x5 : Int} (k : K 272 [some (vR 24), some (vR h1), some (vR h2), none, some (vI x4), some (vI x5), none, none, none, none, none, none, none, none] [] (sh, I, L) (0, 0)) : K 93 [some (vR 24), some (vR h1), some (vR h2), none, some (vI x4), some (vI x5), none, none, none, none, none, none, none, none] [] (sh, I, L) (0, 0) := by
  refine hK.1 93 [some (vR 24), some (vR h1), some (vR h2), none, some (vI x4), some (vI x5), none, none, none, none, none, none, none, none] [] (sh, I, L) (0, 0) ?_
  exact k
set_option maxRecDepth 4000 in
theorem B_X2_lay_96 {Q : oQ} {K : oK} (hK : oCl tb_X2_lay Q K) {sh : oS} (hs : Sh sh) {I : Nat → Nat → Int} {L : Nat → Nat → Int64} {h1 : Nat} {h2 : Nat} {x4 : Int} {x5 : Int} {x6 : Int} (n100a : inR x5) (k : T_X7_addNode [vR 31] (sh, I, L) (fun r mm => K 120 [some (vR 24), some (vR h1), some (vR h2), none, some (vI x4), some (vI x5), some (vI x6), some (vI (x5.tdiv 19)), some (vI ((x5.tmod 19) - 9)), none, none, none, none, none] (r.toList ++ []) mm (0, 0))) : K 96 [some (vR 24), some (vR h1), some (vR h2), none, some (vI x4), some (vI x5), some (vI x6), none, none, none, none, none, none, none] [] (sh, I, L) (0, 0) := by
  refine hK.1 96 [some (vR 24), some (vR h1), some (vR h2), none, some (vI x4), some (vI x5), some (vI x6), none, none, none, none, none, none, none] [] (sh, I, L) (0, 0) ?_
  refine hK.1 98 [some (vR 24), some (vR h1), some (vR h2), none, some (vI x4), some (vI x5), some (vI x6), none, none, none, none, none, none, none] [vI x5] (sh, I, L) (0, 0) ?_
  refine hK.1 100 [some (vR 24), some (vR h1), some (vR h2), none, some (vI x4), some (vI x5), some (vI x6), none, none, none, none, none, none, none] [vI 19, vI x5] (sh, I, L) (0, 0) ?_
  refine And.intro (And.intro n100a (And.intro ⟨by decide, by decide⟩ (by decide))) ?_
  refine hK.1 101 [some (vR 24), some (vR h1), some (vR h2), none, some (vI x4), some (vI x5), some (vI x6), none, none, none, none, none, none, none] [vI (x5.tdiv 19)] (sh, I, L) (0, 0) ?_
  refine hK.1 103 [some (vR 24), some (vR h1), some (vR h2), none, some (vI x4), some (vI x5), some (vI x6), some (vI (x5.tdiv 19)), none, none, none, none, none, none] [] (sh, I, L) (0, 0) ?_
  refine hK.1 105 [some (vR 24), some (vR h1), some (vR h2), none, some (vI x4), some (vI x5), some (vI x6), some (vI (x5.tdiv 19)), none, none, none, none, none, none] [vI x5] (sh, I, L) (0, 0) ?_
  refine hK.1 107 [some (vR 24), some (vR h1), some (vR h2), none, some (vI x4), some (vI x5), some (vI x6), some (vI (x5.tdiv 19)), none, none, none, none, none, none] [vI 19, vI x5] (sh, I, L) (0, 0) ?_
  refine And.intro (And.intro n100a (And.intro ⟨by decide, by decide⟩ (by decide))) ?_
  refine hK.1 108 [some (vR 24), some (vR h1), some (vR h2), none, some (vI x4), some (vI x5), some (vI x6), some (vI (x5.tdiv 19)), none, none, none, none, none, none] [vI (x5.tmod 19)] (sh, I, L) (0, 0) ?_
  refine hK.1 110 [some (vR 24), some (vR h1), some (vR h2), none, some (vI x4), some (vI x5), some (vI x6), some (vI (x5.tdiv 19)), none, none, none, none, none, none] [vI 9, vI (x5.tmod 19)] (sh, I, L) (0, 0) ?_
  refine hK.1 111 [some (vR 24), some (vR h1), some (vR h2), none, some (vI x4), some (vI x5), some (vI x6), some (vI (x5.tdiv 19)), none, none, none, none, none, none] [vI ((x5.tmod 19) - 9)] (sh, I, L) (0, 0) ?_
  refine hK.1 113 [some (vR 24), some (vR h1), some (vR h2), none, some (vI x4), some (vI x5), some (vI x6), some (vI (x5.tdiv 19)), some (vI ((x5.tmod 19) - 9)), none, none, none, none, none] [] (sh, I, L) (0, 0) ?_
  refine hK.1 114 [some (vR 24), some (vR h1), some (vR h2), none, some (vI x4), some (vI x5), some (vI x6), some (vI (x5.tdiv 19)), some (vI ((x5.tmod 19) - 9)), none, none, none, none, none] [vR 24] (sh, I, L) (0, 0) ?_
  refine And.intro (mem1 (sk_24 hs)) (Exists.intro 31 (And.intro (sr_24_3 hs) ?_))
  refine hK.1 117 [some (vR 24), some (vR h1), some (vR h2), none, some (vI x4), some (vI x5), some (vI x6), some (vI (x5.tdiv 19)), some (vI ((x5.tmod 19) - 9)), none, none, none, none, none] [vR 31] (sh, I, L) (0, 0) ?_
  exact And.intro ⟨(sk_31 hs), Nat.le_of_ble_eq_true rfl, Nat.le_of_ble_eq_true rfl, Nat.le_of_ble_eq_true rfl, Nat.le_of_ble_eq_true rfl⟩ k
set_option maxRecDepth 4000 in
theorem B_X2_lay_120 {Q : oQ} {K : oK} (hK : oCl tb_X2_lay Q K) {sh : oS} (hs : Sh sh) {I : Nat → Nat → Int} {L : Nat → Nat → Int64} {h1 : Nat} {h2 : Nat} {x4 : Int} {x5 : Int} {x6 : Int} {x7 : Int} {x8 : Int} {s0 : Int} (k : T_X7_addNode [vR 31] (sh, I, L) (fun r mm => K 129 [some (vR 24), some (vR h1), some (vR h2), none, some (vI x4), some (vI x5), some (vI x6), some (vI x7), some (vI x8), some (vI s0), none, none, none, none] (r.toList ++ []) mm (0, 0))) : K 120 [some (vR 24), some (vR h1), some (vR h2), none, some (vI x4), some (vI x5), some (vI x6), some (vI x7), some (vI x8), none, none, none, none, none] [vI s0] (sh, I, L) (0, 0) := by
  refine hK.1 120 [some (vR 24), some (vR h1), some (vR h2), none, some (vI x4), some (vI x5), some (vI x6), some (vI x7), some (vI x8), none, none, none, none, none] [vI s0] (sh, I, L) (0, 0) ?_
  refine hK.1 122 [some (vR 24), some (vR h1), some (vR h2), none, some (vI x4), some (vI x5), some (vI x6), some (vI x7), some (vI x8), some (vI s0), none, none, none, none] [] (sh, I, L) (0, 0) ?_
  refine hK.1 123 [some (vR 24), some (vR h1), some (vR h2), none, some (vI x4), some (vI x5), some (vI x6), some (vI x7), some (vI x8), some (vI s0), none, none, none, none] [vR 24] (sh, I, L) (0, 0) ?_
  refine And.intro (mem1 (sk_24 hs)) (Exists.intro 31 (And.intro (sr_24_3 hs) ?_))
  refine hK.1 126 [some (vR 24), some (vR h1), some (vR h2), none, some (vI x4), some (vI x5), some (vI x6), some (vI x7), some (vI x8), some (vI s0), none, none, none, none] [vR 31] (sh, I, L) (0, 0) ?_
  exact And.intro ⟨(sk_31 hs), Nat.le_of_ble_eq_true rfl, Nat.le_of_ble_eq_true rfl, Nat.le_of_ble_eq_true rfl, Nat.le_of_ble_eq_true rfl⟩ k
set_option maxRecDepth 4000 in
theorem B_X2_lay_129 {Q : oQ} {K : oK} (hK : oCl tb_X2_lay Q K) {sh : oS} (hs : Sh sh) {I : Nat → Nat → Int} {L : Nat → Nat → Int64} {h1 : Nat} {h2 : Nat} {x4 : Int} {x5 : Int} {x6 : Int} {x7 : Int} {x8 : Int} {x9 : Int} {s0 : Int} (k : T_X7_edge [vR 31, vI x9, vI s0, vI x6, vI 0] (sh, I, L) (fun r mm => K 145 [some (vR 24), some (vR h1), some (vR h2), none, some (vI x4), some (vI x5), some (vI x6), some (vI x7), some (vI x8), some (vI x9), some (vI s0), none, none, none] (r.toList ++ []) mm (0, 0))) : K 129 [some (vR 24), some (vR h1), some (vR h2), none, some (vI x4), some (vI x5), some (vI x6), some (vI x7), some (vI x8), some (vI x9), none, none, none, none] [vI s0] (sh, I, L) (0, 0) := by
  refine hK.1 129 [some (vR 24), some (vR h1), some (vR h2), none, some (vI x4), some (vI x5), some (vI x6), some (vI x7), some (vI x8), some (vI x9), none, none, none, none] [vI s0] (sh, I, L) (0, 0) ?_
  refine hK.1 131 [some (vR 24), some (vR h1), some (vR h2), none, some (vI x4), some (vI x5), some (vI x6), some (vI x7), some (vI x8), some (vI x9), some (vI s0), none, none, none] [] (sh, I, L) (0, 0) ?_
  refine hK.1 132 [some (vR 24), some (vR h1), some (vR h2), none, some (vI x4), some (vI x5), some (vI x6), some (vI x7), some (vI x8), some (vI x9), some (vI s0), none, none, none] [vR 24] (sh, I, L) (0, 0) ?_
  refine And.intro (mem1 (sk_24 hs)) (Exists.intro 31 (And.intro (sr_24_3 hs) ?_))
  refine hK.1 135 [some (vR 24), some (vR h1), some (vR h2), none, some (vI x4), some (vI x5), some (vI x6), some (vI x7), some (vI x8), some (vI x9), some (vI s0), none, none, none] [vR 31] (sh, I, L) (0, 0) ?_
  refine hK.1 137 [some (vR 24), some (vR h1), some (vR h2), none, some (vI x4), some (vI x5), some (vI x6), some (vI x7), some (vI x8), some (vI x9), some (vI s0), none, none, none] [vI x9, vR 31] (sh, I, L) (0, 0) ?_
  refine hK.1 139 [some (vR 24), some (vR h1), some (vR h2), none, some (vI x4), some (vI x5), some (vI x6), some (vI x7), some (vI x8), some (vI x9), some (vI s0), none, none, none] [vI s0, vI x9, vR 31] (sh, I, L) (0, 0) ?_
  refine hK.1 141 [some (vR 24), some (vR h1), some (vR h2), none, some (vI x4), some (vI x5), some (vI x6), some (vI x7), some (vI x8), some (vI x9), some (vI s0), none, none, none] [vI x6, vI s0, vI x9, vR 31] (sh, I, L) (0, 0) ?_
  refine hK.1 142 [some (vR 24), some (vR h1), some (vR h2), none, some (vI x4), some (vI x5), some (vI x6), some (vI x7), some (vI x8), some (vI x9), some (vI s0), none, none, none] [vI 0, vI x6, vI s0, vI x9, vR 31] (sh, I, L) (0, 0) ?_
  exact And.intro ⟨(sk_31 hs), Nat.le_of_ble_eq_true rfl, Nat.le_of_ble_eq_true rfl, Nat.le_of_ble_eq_true rfl, Nat.le_of_ble_eq_true rfl⟩ k
set_option maxRecDepth 4000 in
theorem B_X2_lay_145 {Q : oQ} {K : oK} (hK : oCl tb_X2_lay Q K) {sh : oS} (hs : Sh sh) {I : Nat → Nat → Int} {L : Nat → Nat → Int64} {h1 : Nat} {h2 : Nat} {x4 : Int} {x5 : Int} {x6 : Int} {x7 : Int} {x8 : Int} {x9 : Int} {x10 : Int} (k : T_X7_edge [vR 31, vI (2 + x7), vI x9, vI x6, vI 0] (sh, I, L) (fun r mm => K 161 [some (vR 24), some (vR h1), some (vR h2), none, some (vI x4), some (vI x5), some (vI x6), some (vI x7), some (vI x8), some (vI x9), some (vI x10), none, none, none] (r.toList ++ []) mm (0, 0))) : K 145 [some (vR 24), some (vR h1), some (vR h2), none, some (vI x4), some (vI x5), some (vI x6), some (vI x7), some (vI x8), some (vI x9), some (vI x10), none, none, none] [] (sh, I, L) (0, 0) := by
  refine hK.1 145 [some (vR 24), some (vR h1), some (vR h2), none, some (vI x4), some (vI x5), some (vI x6), some (vI x7), some (vI x8), some (vI x9), some (vI x10), none, none, none] [] (sh, I, L) (0, 0) ?_
  refine hK.1 146 [some (vR 24), some (vR h1), some (vR h2), none, some (vI x4), some (vI x5), some (vI x6), some (vI x7), some (vI x8), some (vI x9), some (vI x10), none, none, none] [vR 24] (sh, I, L) (0, 0) ?_
  refine And.intro (mem1 (sk_24 hs)) (Exists.intro 31 (And.intro (sr_24_3 hs) ?_))
  refine hK.1 149 [some (vR 24), some (vR h1), some (vR h2), none, some (vI x4), some (vI x5), some (vI x6), some (vI x7), some (vI x8), some (vI x9), some (vI x10), none, none, none] [vR 31] (sh, I, L) (0, 0) ?_
  refine hK.1 150 [some (vR 24), some (vR h1), some (vR h2), none, some (vI x4), some (vI x5), some (vI x6), some (vI x7), some (vI x8), some (vI x9), some (vI x10), none, none, none] [vI 2, vR 31] (sh, I, L) (0, 0) ?_
  refine hK.1 152 [some (vR 24), some (vR h1), some (vR h2), none, some (vI x4), some (vI x5), some (vI x6), some (vI x7), some (vI x8), some (vI x9), some (vI x10), none, none, none] [vI x7, vI 2, vR 31] (sh, I, L) (0, 0) ?_
  refine hK.1 153 [some (vR 24), some (vR h1), some (vR h2), none, some (vI x4), some (vI x5), some (vI x6), some (vI x7), some (vI x8), some (vI x9), some (vI x10), none, none, none] [vI (2 + x7), vR 31] (sh, I, L) (0, 0) ?_
  refine hK.1 155 [some (vR 24), some (vR h1), some (vR h2), none, some (vI x4), some (vI x5), some (vI x6), some (vI x7), some (vI x8), some (vI x9), some (vI x10), none, none, none] [vI x9, vI (2 + x7), vR 31] (sh, I, L) (0, 0) ?_
  refine hK.1 157 [some (vR 24), some (vR h1), some (vR h2), none, some (vI x4), some (vI x5), some (vI x6), some (vI x7), some (vI x8), some (vI x9), some (vI x10), none, none, none] [vI x6, vI x9, vI (2 + x7), vR 31] (sh, I, L) (0, 0) ?_
  refine hK.1 158 [some (vR 24), some (vR h1), some (vR h2), none, some (vI x4), some (vI x5), some (vI x6), some (vI x7), some (vI x8), some (vI x9), some (vI x10), none, none, none] [vI 0, vI x6, vI x9, vI (2 + x7), vR 31] (sh, I, L) (0, 0) ?_
  exact And.intro ⟨(sk_31 hs), Nat.le_of_ble_eq_true rfl, Nat.le_of_ble_eq_true rfl, Nat.le_of_ble_eq_true rfl, Nat.le_of_ble_eq_true rfl⟩ k
set_option maxRecDepth 4000 in
theorem B_X2_lay_161 {Q : oQ} {K : oK} (hK : oCl tb_X2_lay Q K) {sh : oS} {I : Nat → Nat → Int} {L : Nat → Nat → Int64} {h1 : Nat} {h2 : Nat} {x4 : Int} {x5 : Int} {x6 : Int} {x7 : Int} {x8 : Int} {x9 : Int} {x10 : Int} (n163 : inR x7) (kt : x7 ≤ 0 → K 190 [some (vR 24), some (vR h1), some (vR h2), none, some (vI x4), some (vI x5), some (vI x6), some (vI x7), some (vI x8), none, some (vI x10), none, none, none] [] (sh, I, L) (0, 0)) (kf : ¬ (x7 ≤ 0) → K 166 [some (vR 24), some (vR h1), some (vR h2), none, some (vI x4), some (vI x5), some (vI x6), some (vI x7), some (vI x8), some (vI x9), some (vI x10), none, none, none] [] (sh, I, L) (0, 0)) : K 161 [some (vR 24), some (vR h1), some (vR h2), none, some (vI x4), some (vI x5), some (vI x6), some (vI x7), some (vI x8), some (vI x9), some (vI x10), none, none, none] [] (sh, I, L) (0, 0) := by
  refine hK.1 161 [some (vR 24), some (vR h1), some (vR h2), none, some (vI x4), some (vI x5), some (vI x6), some (vI x7), some (vI x8), some (vI x9), some (vI x10), none, none, none] [] (sh, I, L) (0, 0) ?_
  refine hK.1 163 [some (vR 24), some (vR h1), some (vR h2), none, some (vI x4), some (vI x5), some (vI x6), some (vI x7), some (vI x8), some (vI x9), some (vI x10), none, none, none] [vI x7] (sh, I, L) (0, 0) ?_
  exact And.intro (n163) (And.intro (fun h => hK.2 [true, true, true, false, true, true, true, true, true, false, true, false, false, false] _ _ _ _ _ (kt h)) (fun h => hK.2 [true, true, true, false, true, true, true, true, true, true, true, false, false, false] _ _ _ _ _ (kf h)))
set_option maxRecDepth 4000 in
theorem B_X2_lay_166 {Q : oQ} {K : oK} (hK : oCl tb_X2_lay Q K) {sh : oS} {I : Nat → Nat → Int} {L : Nat → Nat → Int64} {h1 : Nat} {h2 : Nat} {x4 : Int} {x5 : Int} {x6 : Int} {x7 : Int} {x8 : Int} {x9 : Int} {x10 : Int} (n173a : inR x8) (n173b : inR (x7 - x4)) (kt : x8 < x7 - x4 → K 190 [some (vR 24), some (vR h1), some (vR h2), none, some (vI x4), some (vI x5), some (vI x6), some (vI x7), some (vI x8), none, some (vI x10), none, none, none] [] (sh, I, L) (0, 0)) (kf : ¬ (x8 < x7 - x4) → K 176 [some (vR 24), some (vR h1), some (vR h2), none, some (vI x4), some (vI x5), some (vI x6), some (vI x7), some (vI x8), some (vI x9), some (vI x10), none, none, none] [] (sh, I, L) (0, 0)) : K 166 [some (vR 24), some (vR h1), some (vR h2), none, some (vI x4), some (vI x5), some (vI x6), some (vI x7), some (vI x8), some (vI x9), some (vI x10), none, none, none] [] (sh, I, L) (0, 0) := by
  refine hK.1 166 [some (vR 24), some (vR h1), some (vR h2), none, some (vI x4), some (vI x5), some (vI x6), some (vI x7), some (vI x8), some (vI x9), some (vI x10), none, none, none] [] (sh, I, L) (0, 0) ?_
  refine hK.1 168 [some (vR 24), some (vR h1), some (vR h2), none, some (vI x4), some (vI x5), some (vI x6), some (vI x7), some (vI x8), some (vI x9), some (vI x10), none, none, none] [vI x8] (sh, I, L) (0, 0) ?_
  refine hK.1 170 [some (vR 24), some (vR h1), some (vR h2), none, some (vI x4), some (vI x5), some (vI x6), some (vI x7), some (vI x8), some (vI x9), some (vI x10), none, none, none] [vI x7, vI x8] (sh, I, L) (0, 0) ?_
  refine hK.1 172 [some (vR 24), some (vR h1), some (vR h2), none, some (vI x4), some (vI x5), some (vI x6), some (vI x7), some (vI x8), some (vI x9), some (vI x10), none, none, none] [vI x4, vI x7, vI x8] (sh, I, L) (0, 0) ?_
  refine hK.1 173 [some (vR 24), some (vR h1), some (vR h2), none, some (vI x4), some (vI x5), some (vI x6), some (vI x7), some (vI x8), some (vI x9), some (vI x10), none, none, none] [vI (x7 - x4), vI x8] (sh, I, L) (0, 0) ?_
  exact And.intro (And.intro n173a n173b) (And.intro (fun h => hK.2 [true, true, true, false, true, true, true, true, true, false, true, false, false, false] _ _ _ _ _ (kt h)) (fun h => hK.2 [true, true, true, false, true, true, true, true, true, true, true, false, false, false] _ _ _ _ _ (kf h)))
set_option maxRecDepth 4000 in
theorem B_X2_lay_176 {Q : oQ} {K : oK} (hK : oCl tb_X2_lay Q K) {sh : oS} (hs : Sh sh) {I : Nat → Nat → Int} {L : Nat → Nat → Int64} {h1 : Nat} {h2 : Nat} {x4 : Int} {x5 : Int} {x6 : Int} {x7 : Int} {x8 : Int} {x9 : Int} {x10 : Int} (k : T_X7_edge [vR 31, vI 2, vI x9, vI x6, vI x7] (sh, I, L) (fun r mm => K 190 [some (vR 24), some (vR h1), some (vR h2), none, some (vI x4), some (vI x5), some (vI x6), some (vI x7), some (vI x8), none, some (vI x10), none, none, none] (r.toList ++ []) mm (0, 0))) : K 176 [some (vR 24), some (vR h1), some (vR h2), none, some (vI x4), some (vI x5), some (vI x6), some (vI x7), some (vI x8), some (vI x9), some (vI x10), none, none, none] [] (sh, I, L) (0, 0) := by
  refine hK.1 176 [some (vR 24), some (vR h1), some (vR h2), none, some (vI x4), some (vI x5), some (vI x6), some (vI x7), some (vI x8), some (vI x9), some (vI x10), none, none, none] [] (sh, I, L) (0, 0) ?_
  refine hK.1 177 [some (vR 24), some (vR h1), some (vR h2), none, some (vI x4), some (vI x5), some (vI x6), some (vI x7), some (vI x8), some (vI x9), some (vI x10), none, none, none] [vR 24] (sh, I, L) (0, 0) ?_
  refine And.intro (mem1 (sk_24 hs)) (Exists.intro 31 (And.intro (sr_24_3 hs) ?_))
  refine hK.1 180 [some (vR 24), some (vR h1), some (vR h2), none, some (vI x4), some (vI x5), some (vI x6), some (vI x7), some (vI x8), some (vI x9), some (vI x10), none, none, none] [vR 31] (sh, I, L) (0, 0) ?_
  refine hK.1 181 [some (vR 24), some (vR h1), some (vR h2), none, some (vI x4), some (vI x5), some (vI x6), some (vI x7), some (vI x8), some (vI x9), some (vI x10), none, none, none] [vI 2, vR 31] (sh, I, L) (0, 0) ?_
  refine hK.1 183 [some (vR 24), some (vR h1), some (vR h2), none, some (vI x4), some (vI x5), some (vI x6), some (vI x7), some (vI x8), some (vI x9), some (vI x10), none, none, none] [vI x9, vI 2, vR 31] (sh, I, L) (0, 0) ?_
  refine hK.1 185 [some (vR 24), some (vR h1), some (vR h2), none, some (vI x4), some (vI x5), some (vI x6), some (vI x7), some (vI x8), some (vI x9), some (vI x10), none, none, none] [vI x6, vI x9, vI 2, vR 31] (sh, I, L) (0, 0) ?_
  refine hK.2 [true, true, true, false, true, true, true, true, true, false, true, false, false, false] _ _ _ _ _ ?_
  refine hK.1 187 [some (vR 24), some (vR h1), some (vR h2), none, some (vI x4), some (vI x5), some (vI x6), some (vI x7), some (vI x8), none, some (vI x10), none, none, none] [vI x7, vI x6, vI x9, vI 2, vR 31] (sh, I, L) (0, 0) ?_
  exact And.intro ⟨(sk_31 hs), Nat.le_of_ble_eq_true rfl, Nat.le_of_ble_eq_true rfl, Nat.le_of_ble_eq_true rfl, Nat.le_of_ble_eq_true rfl⟩ k
set_option maxRecDepth 4000 in
theorem B_X2_lay_190 {Q : oQ} {K : oK} (hK : oCl tb_X2_lay Q K) {sh : oS} {I : Nat → Nat → Int} {L : Nat → Nat → Int64} {h1 : Nat} {h2 : Nat} {x4 : Int} {x5 : Int} {x6 : Int} {x7 : Int} {x8 : Int} {x10 : Int} {h1f h1w : Nat} {h2e h2p h2t : Nat} (Ah1 : LandAt sh h1 h1f h1w) (Ah2 : MarchAt sh h2 h2e h2p h2t) (n203a : inR (x8 + (I h1 5))) (n203b : inR ((I h2 0) - 1)) (n211a : inR x8) (k : K 216 [some (vR 24), some (vR h1), some (vR h2), none, some (vI x4), some (vI x5), some (vI x6), some (vI x7), some (vI x8), none, some (vI x10), some (vI (fMin (x8 + (I h1 5)) ((I h2 0) - 1))), some (vI (fMax x8 0)), none] [] (sh, I, L) (0, 0)) : K 190 [some (vR 24), some (vR h1), some (vR h2), none, some (vI x4), some (vI x5), some (vI x6), some (vI x7), some (vI x8), none, some (vI x10), none, none, none] [] (sh, I, L) (0, 0) := by
  refine hK.1 190 [some (vR 24), some (vR h1), some (vR h2), none, some (vI x4), some (vI x5), some (vI x6), some (vI x7), some (vI x8), none, some (vI x10), none, none, none] [] (sh, I, L) (0, 0) ?_
  refine hK.1 192 [some (vR 24), some (vR h1), some (vR h2), none, some (vI x4), some (vI x5), some (vI x6), some (vI x7), some (vI x8), none, some (vI x10), none, none, none] [vI x8] (sh, I, L) (0, 0) ?_
  refine hK.1 193 [some (vR 24), some (vR h1), some (vR h2), none, some (vI x4), some (vI x5), some (vI x6), some (vI x7), some (vI x8), none, some (vI x10), none, none, none] [vR h1, vI x8] (sh, I, L) (0, 0) ?_
  refine And.intro (mem1 Ah1.1) ?_
  refine hK.1 196 [some (vR 24), some (vR h1), some (vR h2), none, some (vI x4), some (vI x5), some (vI x6), some (vI x7), some (vI x8), none, some (vI x10), none, none, none] [vI (I h1 5), vI x8] (sh, I, L) (0, 0) ?_
  refine hK.1 197 [some (vR 24), some (vR h1), some (vR h2), none, some (vI x4), some (vI x5), some (vI x6), some (vI x7), some (vI x8), none, some (vI x10), none, none, none] [vI (x8 + (I h1 5))] (sh, I, L) (0, 0) ?_
  refine hK.1 198 [some (vR 24), some (vR h1), some (vR h2), none, some (vI x4), some (vI x5), some (vI x6), some (vI x7), some (vI x8), none, some (vI x10), none, none, none] [vR h2, vI (x8 + (I h1 5))] (sh, I, L) (0, 0) ?_
  refine And.intro (mem1 Ah2.1) ?_
  refine hK.1 201 [some (vR 24), some (vR h1), some (vR h2), none, some (vI x4), some (vI x5), some (vI x6), some (vI x7), some (vI x8), none, some (vI x10), none, none, none] [vI (I h2 0), vI (x8 + (I h1 5))] (sh, I, L) (0, 0) ?_
  refine hK.1 202 [some (vR 24), some (vR h1), some (vR h2), none, some (vI x4), some (vI x5), some (vI x6), some (vI x7), some (vI x8), none, some (vI x10), none, none, none] [vI 1, vI (I h2 0), vI (x8 + (I h1 5))] (sh, I, L) (0, 0) ?_
  refine hK.1 203 [some (vR 24), some (vR h1), some (vR h2), none, some (vI x4), some (vI x5), some (vI x6), some (vI x7), some (vI x8), none, some (vI x10), none, none, none] [vI ((I h2 0) - 1), vI (x8 + (I h1 5))] (sh, I, L) (0, 0) ?_
  refine And.intro ⟨n203a, n203b, Nat.le_of_ble_eq_true rfl, Nat.le_of_ble_eq_true rfl, Nat.le_of_ble_eq_true rfl⟩ ?_
  refine hK.1 206 [some (vR 24), some (vR h1), some (vR h2), none, some (vI x4), some (vI x5), some (vI x6), some (vI x7), some (vI x8), none, some (vI x10), none, none, none] [vI (fMin (x8 + (I h1 5)) ((I h2 0) - 1))] (sh, I, L) (0, 0) ?_
  refine hK.1 208 [some (vR 24), some (vR h1), some (vR h2), none, some (vI x4), some (vI x5), some (vI x6), some (vI x7), some (vI x8), none, some (vI x10), some (vI (fMin (x8 + (I h1 5)) ((I h2 0) - 1))), none, none] [] (sh, I, L) (0, 0) ?_
  refine hK.1 210 [some (vR 24), some (vR h1), some (vR h2), none, some (vI x4), some (vI x5), some (vI x6), some (vI x7), some (vI x8), none, some (vI x10), some (vI (fMin (x8 + (I h1 5)) ((I h2 0) - 1))), none, none] [vI x8] (sh, I, L) (0, 0) ?_
  refine hK.1 211 [some (vR 24), some (vR h1), some (vR h2), none, some (vI x4), some (vI x5), some (vI x6), some (vI x7), some (vI x8), none, some (vI x10), some (vI (fMin (x8 + (I h1 5)) ((I h2 0) - 1))), none, none] [vI 0, vI x8] (sh, I, L) (0, 0) ?_
  refine And.intro ⟨n211a, ⟨by decide, by decide⟩, Nat.le_of_ble_eq_true rfl, Nat.le_of_ble_eq_true rfl, Nat.le_of_ble_eq_true rfl⟩ ?_
  refine hK.1 214 [some (vR 24), some (vR h1), some (vR h2), none, some (vI x4), some (vI x5), some (vI x6), some (vI x7), some (vI x8), none, some (vI x10), some (vI (fMin (x8 + (I h1 5)) ((I h2 0) - 1))), none, none] [vI (fMax x8 0)] (sh, I, L) (0, 0) ?_
  exact k
set_option maxRecDepth 4000 in
theorem B_X2_lay_216 {Q : oQ} {K : oK} (hK : oCl tb_X2_lay Q K) {sh : oS} {I : Nat → Nat → Int} {L : Nat → Nat → Int64} {h1 : Nat} {h2 : Nat} {x4 : Int} {x5 : Int} {x6 : Int} {x7 : Int} {x8 : Int} {x10 : Int} {x11 : Int} {x12 : Int} (n220a : inR x12) (n220b : inR x11) (kt : x11 < x12 → K 272 [some (vR 24), some (vR h1), some (vR h2), none, some (vI x4), some (vI x5), none, none, none, none, none, none, none, none] [] (sh, I, L) (0, 0)) (kf : ¬ (x11 < x12) → K 223 [some (vR 24), some (vR h1), some (vR h2), none, some (vI x4), some (vI x5), some (vI x6), some (vI x7), some (vI x8), none, some (vI x10), some (vI x11), some (vI x12), none] [] (sh, I, L) (0, 0)) : K 216 [some (vR 24), some (vR h1), some (vR h2), none, some (vI x4), some (vI x5), some (vI x6), some (vI x7), some (vI x8), none, some (vI x10), some (vI x11), some (vI x12), none] [] (sh, I, L) (0, 0) := by
  refine hK.1 216 [some (vR 24), some (vR h1), some (vR h2), none, some (vI x4), some (vI x5), some (vI x6), some (vI x7), some (vI x8), none, some (vI x10), some (vI x11), some (vI x12), none] [] (sh, I, L) (0, 0) ?_
  refine hK.1 218 [some (vR 24), some (vR h1), some (vR h2), none, some (vI x4), some (vI x5), some (vI x6), some (vI x7), some (vI x8), none, some (vI x10), some (vI x11), some (vI x12), none] [vI x12] (sh, I, L) (0, 0) ?_
  refine hK.1 220 [some (vR 24), some (vR h1), some (vR h2), none, some (vI x4), some (vI x5), some (vI x6), some (vI x7), some (vI x8), none, some (vI x10), some (vI x11), some (vI x12), none] [vI x11, vI x12] (sh, I, L) (0, 0) ?_
  exact And.intro (And.intro n220a n220b) (And.intro (fun h => hK.2 [true, true, true, false, true, true, false, false, false, false, false, false, false, false] _ _ _ _ _ (kt h)) (fun h => hK.2 [true, true, true, false, true, true, true, true, true, false, true, true, true, false] _ _ _ _ _ (kf h)))
set_option maxRecDepth 4000 in
theorem B_X2_lay_223 {Q : oQ} {K : oK} (hK : oCl tb_X2_lay Q K) {sh : oS} (hs : Sh sh) {I : Nat → Nat → Int} {L : Nat → Nat → Int64} {h1 : Nat} {h2 : Nat} {x4 : Int} {x5 : Int} {x6 : Int} {x7 : Int} {x8 : Int} {x10 : Int} {x11 : Int} {x12 : Int} (b229 : 0 ≤ x12 ∧ x12 < 10) (n233 : inR ((I 29 (x12.toNat)) - x7) ∧ -2147483648 < (I 29 (x12.toNat)) - x7) (n245a : inR (x12 - x8)) (n245b : inR (fAbs ((I 29 (x12.toNat)) - x7))) (kt : x12 - x8 < fAbs ((I 29 (x12.toNat)) - x7) → K 266 [some (vR 24), some (vR h1), some (vR h2), none, some (vI x4), some (vI x5), some (vI x6), some (vI x7), some (vI x8), none, some (vI x10), some (vI x11), some (vI x12), none] [] (sh, I, L) (0, 0)) (kf : ¬ (x12 - x8 < fAbs ((I 29 (x12.toNat)) - x7)) → K 248 [some (vR 24), some (vR h1), some (vR h2), none, some (vI x4), some (vI x5), some (vI x6), some (vI x7), some (vI x8), none, some (vI x10), some (vI x11), some (vI x12), some (vI (fAbs ((I 29 (x12.toNat)) - x7)))] [] (sh, I, L) (0, 0)) : K 223 [some (vR 24), some (vR h1), some (vR h2), none, some (vI x4), some (vI x5), some (vI x6), some (vI x7), some (vI x8), none, some (vI x10), some (vI x11), some (vI x12), none] [] (sh, I, L) (0, 0) := by
  refine hK.1 223 [some (vR 24), some (vR h1), some (vR h2), none, some (vI x4), some (vI x5), some (vI x6), some (vI x7), some (vI x8), none, some (vI x10), some (vI x11), some (vI x12), none] [] (sh, I, L) (0, 0) ?_
  refine hK.1 224 [some (vR 24), some (vR h1), some (vR h2), none, some (vI x4), some (vI x5), some (vI x6), some (vI x7), some (vI x8), none, some (vI x10), some (vI x11), some (vI x12), none] [vR 24] (sh, I, L) (0, 0) ?_
  refine And.intro (mem1 (sk_24 hs)) (Exists.intro 29 (And.intro (sr_24_1 hs) ?_))
  refine hK.1 227 [some (vR 24), some (vR h1), some (vR h2), none, some (vI x4), some (vI x5), some (vI x6), some (vI x7), some (vI x8), none, some (vI x10), some (vI x11), some (vI x12), none] [vR 29] (sh, I, L) (0, 0) ?_
  refine hK.1 229 [some (vR 24), some (vR h1), some (vR h2), none, some (vI x4), some (vI x5), some (vI x6), some (vI x7), some (vI x8), none, some (vI x10), some (vI x11), some (vI x12), none] [vI x12, vR 29] (sh, I, L) (0, 0) ?_
  refine And.intro (And.intro (sk_29 hs) (ixL (sl_29 hs) b229)) ?_
  refine hK.1 230 [some (vR 24), some (vR h1), some (vR h2), none, some (vI x4), some (vI x5), some (vI x6), some (vI x7), some (vI x8), none, some (vI x10), some (vI x11), some (vI x12), none] [vI (I 29 (x12.toNat))] (sh, I, L) (0, 0) ?_
  refine hK.1 232 [some (vR 24), some (vR h1), some (vR h2), none, some (vI x4), some (vI x5), some (vI x6), some (vI x7), some (vI x8), none, some (vI x10), some (vI x11), some (vI x12), none] [vI x7, vI (I 29 (x12.toNat))] (sh, I, L) (0, 0) ?_
  refine hK.1 233 [some (vR 24), some (vR h1), some (vR h2), none, some (vI x4), some (vI x5), some (vI x6), some (vI x7), some (vI x8), none, some (vI x10), some (vI x11), some (vI x12), none] [vI ((I 29 (x12.toNat)) - x7)] (sh, I, L) (0, 0) ?_
  refine And.intro ⟨n233.1, n233.2, Nat.le_of_ble_eq_true rfl, Nat.le_of_ble_eq_true rfl, Nat.le_of_ble_eq_true rfl⟩ ?_
  refine hK.1 236 [some (vR 24), some (vR h1), some (vR h2), none, some (vI x4), some (vI x5), some (vI x6), some (vI x7), some (vI x8), none, some (vI x10), some (vI x11), some (vI x12), none] [vI (fAbs ((I 29 (x12.toNat)) - x7))] (sh, I, L) (0, 0) ?_
  refine hK.1 238 [some (vR 24), some (vR h1), some (vR h2), none, some (vI x4), some (vI x5), some (vI x6), some (vI x7), some (vI x8), none, some (vI x10), some (vI x11), some (vI x12), some (vI (fAbs ((I 29 (x12.toNat)) - x7)))] [] (sh, I, L) (0, 0) ?_
  refine hK.1 240 [some (vR 24), some (vR h1), some (vR h2), none, some (vI x4), some (vI x5), some (vI x6), some (vI x7), some (vI x8), none, some (vI x10), some (vI x11), some (vI x12), some (vI (fAbs ((I 29 (x12.toNat)) - x7)))] [vI x12] (sh, I, L) (0, 0) ?_
  refine hK.1 242 [some (vR 24), some (vR h1), some (vR h2), none, some (vI x4), some (vI x5), some (vI x6), some (vI x7), some (vI x8), none, some (vI x10), some (vI x11), some (vI x12), some (vI (fAbs ((I 29 (x12.toNat)) - x7)))] [vI x8, vI x12] (sh, I, L) (0, 0) ?_
  refine hK.1 243 [some (vR 24), some (vR h1), some (vR h2), none, some (vI x4), some (vI x5), some (vI x6), some (vI x7), some (vI x8), none, some (vI x10), some (vI x11), some (vI x12), some (vI (fAbs ((I 29 (x12.toNat)) - x7)))] [vI (x12 - x8)] (sh, I, L) (0, 0) ?_
  refine hK.1 245 [some (vR 24), some (vR h1), some (vR h2), none, some (vI x4), some (vI x5), some (vI x6), some (vI x7), some (vI x8), none, some (vI x10), some (vI x11), some (vI x12), some (vI (fAbs ((I 29 (x12.toNat)) - x7)))] [vI (fAbs ((I 29 (x12.toNat)) - x7)), vI (x12 - x8)] (sh, I, L) (0, 0) ?_
  exact And.intro (And.intro n245a n245b) (And.intro (fun h => hK.2 [true, true, true, false, true, true, true, true, true, false, true, true, true, false] _ _ _ _ _ (kt h)) (fun h => hK.2 [true, true, true, false, true, true, true, true, true, false, true, true, true, true] _ _ _ _ _ (kf h)))
set_option maxRecDepth 4000 in
theorem B_X2_lay_248 {Q : oQ} {K : oK} (hK : oCl tb_X2_lay Q K) {sh : oS} (hs : Sh sh) {I : Nat → Nat → Int} {L : Nat → Nat → Int64} {h1 : Nat} {h2 : Nat} {x4 : Int} {x5 : Int} {x6 : Int} {x7 : Int} {x8 : Int} {x10 : Int} {x11 : Int} {x12 : Int} {x13 : Int} (k : T_X7_edge [vR 31, vI x10, vI (10 + x12), vI x6, vI x13] (sh, I, L) (fun r mm => K 266 [some (vR 24), some (vR h1), some (vR h2), none, some (vI x4), some (vI x5), some (vI x6), some (vI x7), some (vI x8), none, some (vI x10), some (vI x11), some (vI x12), none] (r.toList ++ []) mm (0, 0))) : K 248 [some (vR 24), some (vR h1), some (vR h2), none, some (vI x4), some (vI x5), some (vI x6), some (vI x7), some (vI x8), none, some (vI x10), some (vI x11), some (vI x12), some (vI x13)] [] (sh, I, L) (0, 0) := by
  refine hK.1 248 [some (vR 24), some (vR h1), some (vR h2), none, some (vI x4), some (vI x5), some (vI x6), some (vI x7), some (vI x8), none, some (vI x10), some (vI x11), some (vI x12), some (vI x13)] [] (sh, I, L) (0, 0) ?_
  refine hK.1 249 [some (vR 24), some (vR h1), some (vR h2), none, some (vI x4), some (vI x5), some (vI x6), some (vI x7), some (vI x8), none, some (vI x10), some (vI x11), some (vI x12), some (vI x13)] [vR 24] (sh, I, L) (0, 0) ?_
  refine And.intro (mem1 (sk_24 hs)) (Exists.intro 31 (And.intro (sr_24_3 hs) ?_))
  refine hK.1 252 [some (vR 24), some (vR h1), some (vR h2), none, some (vI x4), some (vI x5), some (vI x6), some (vI x7), some (vI x8), none, some (vI x10), some (vI x11), some (vI x12), some (vI x13)] [vR 31] (sh, I, L) (0, 0) ?_
  refine hK.1 254 [some (vR 24), some (vR h1), some (vR h2), none, some (vI x4), some (vI x5), some (vI x6), some (vI x7), some (vI x8), none, some (vI x10), some (vI x11), some (vI x12), some (vI x13)] [vI x10, vR 31] (sh, I, L) (0, 0) ?_
  refine hK.1 256 [some (vR 24), some (vR h1), some (vR h2), none, some (vI x4), some (vI x5), some (vI x6), some (vI x7), some (vI x8), none, some (vI x10), some (vI x11), some (vI x12), some (vI x13)] [vI 10, vI x10, vR 31] (sh, I, L) (0, 0) ?_
  refine hK.1 258 [some (vR 24), some (vR h1), some (vR h2), none, some (vI x4), some (vI x5), some (vI x6), some (vI x7), some (vI x8), none, some (vI x10), some (vI x11), some (vI x12), some (vI x13)] [vI x12, vI 10, vI x10, vR 31] (sh, I, L) (0, 0) ?_
  refine hK.1 259 [some (vR 24), some (vR h1), some (vR h2), none, some (vI x4), some (vI x5), some (vI x6), some (vI x7), some (vI x8), none, some (vI x10), some (vI x11), some (vI x12), some (vI x13)] [vI (10 + x12), vI x10, vR 31] (sh, I, L) (0, 0) ?_
  refine hK.1 261 [some (vR 24), some (vR h1), some (vR h2), none, some (vI x4), some (vI x5), some (vI x6), some (vI x7), some (vI x8), none, some (vI x10), some (vI x11), some (vI x12), some (vI x13)] [vI x6, vI (10 + x12), vI x10, vR 31] (sh, I, L) (0, 0) ?_
  refine hK.2 [true, true, true, false, true, true, true, true, true, false, true, true, true, false] _ _ _ _ _ ?_
  refine hK.1 263 [some (vR 24), some (vR h1), some (vR h2), none, some (vI x4), some (vI x5), some (vI x6), some (vI x7), some (vI x8), none, some (vI x10), some (vI x11), some (vI x12), none] [vI x13, vI x6, vI (10 + x12), vI x10, vR 31] (sh, I, L) (0, 0) ?_
  exact And.intro ⟨(sk_31 hs), Nat.le_of_ble_eq_true rfl, Nat.le_of_ble_eq_true rfl, Nat.le_of_ble_eq_true rfl, Nat.le_of_ble_eq_true rfl⟩ k
set_option maxRecDepth 4000 in
theorem B_X2_lay_266 {Q : oQ} {K : oK} (hK : oCl tb_X2_lay Q K) {sh : oS} {I : Nat → Nat → Int} {L : Nat → Nat → Int64} {h1 : Nat} {h2 : Nat} {x4 : Int} {x5 : Int} {x6 : Int} {x7 : Int} {x8 : Int} {x10 : Int} {x11 : Int} {x12 : Int} (k : K 216 [some (vR 24), some (vR h1), some (vR h2), none, some (vI x4), some (vI x5), some (vI x6), some (vI x7), some (vI x8), none, some (vI x10), some (vI x11), some (vI (x12 + 1)), none] [] (sh, I, L) (0, 0)) : K 266 [some (vR 24), some (vR h1), some (vR h2), none, some (vI x4), some (vI x5), some (vI x6), some (vI x7), some (vI x8), none, some (vI x10), some (vI x11), some (vI x12), none] [] (sh, I, L) (0, 0) := by
  refine hK.1 266 [some (vR 24), some (vR h1), some (vR h2), none, some (vI x4), some (vI x5), some (vI x6), some (vI x7), some (vI x8), none, some (vI x10), some (vI x11), some (vI x12), none] [] (sh, I, L) (0, 0) ?_
  refine hK.1 269 [some (vR 24), some (vR h1), some (vR h2), none, some (vI x4), some (vI x5), some (vI x6), some (vI x7), some (vI x8), none, some (vI x10), some (vI x11), some (vI (x12 + 1)), none] [] (sh, I, L) (0, 0) ?_
  exact k
set_option maxRecDepth 4000 in
theorem B_X2_lay_272 {Q : oQ} {K : oK} (hK : oCl tb_X2_lay Q K) {sh : oS} {I : Nat → Nat → Int} {L : Nat → Nat → Int64} {h1 : Nat} {h2 : Nat} {x4 : Int} {x5 : Int} (k : K 64 [some (vR 24), some (vR h1), some (vR h2), none, some (vI x4), some (vI (x5 + 1)), none, none, none, none, none, none, none, none] [] (sh, I, L) (0, 0)) : K 272 [some (vR 24), some (vR h1), some (vR h2), none, some (vI x4), some (vI x5), none, none, none, none, none, none, none, none] [] (sh, I, L) (0, 0) := by
  refine hK.1 272 [some (vR 24), some (vR h1), some (vR h2), none, some (vI x4), some (vI x5), none, none, none, none, none, none, none, none] [] (sh, I, L) (0, 0) ?_
  refine hK.1 275 [some (vR 24), some (vR h1), some (vR h2), none, some (vI x4), some (vI (x5 + 1)), none, none, none, none, none, none, none, none] [] (sh, I, L) (0, 0) ?_
  exact k
set_option maxRecDepth 4000 in
theorem B_X2_lay_278 {Q : oQ} {K : oK} (hK : oCl tb_X2_lay Q K) {sh : oS} {I : Nat → Nat → Int} {L : Nat → Nat → Int64}  (k : Q none (sh, I, L)) : K 278 [none, none, none, none, none, none, none, none, none, none, none, none, none, none] [] (sh, I, L) (0, 0) := by
  refine hK.1 278 [none, none, none, none, none, none, none, none, none, none, none, none, none, none] [] (sh, I, L) (0, 0) ?_
  exact And.intro rfl (And.intro ⟨by decide, by decide⟩ k)
set_option maxRecDepth 4000 in
theorem B_X7_measure_0 {Q : oQ} {K : oK} (hK : oCl tb_X7_measure Q K) {sh : oS} {I : Nat → Nat → Int} {L : Nat → Nat → Int64}  (k : K 2 [some (vR 31), some (vI 0), none, none, none, none, none, none, none] [] (sh, I, L) (0, 0)) : K 0 [some (vR 31), none, none, none, none, none, none, none, none] [] (sh, I, L) (0, 0) := by
  refine hK.1 0 [some (vR 31), none, none, none, none, none, none, none, none] [] (sh, I, L) (0, 0) ?_
  refine hK.1 1 [some (vR 31), none, none, none, none, none, none, none, none] [vI 0] (sh, I, L) (0, 0) ?_
  exact k
set_option maxRecDepth 4000 in
theorem B_X7_measure_2 {Q : oQ} {K : oK} (hK : oCl tb_X7_measure Q K) {sh : oS} (hs : Sh sh) {I : Nat → Nat → Int} {L : Nat → Nat → Int64} {x1 : Int} (n7a : inR x1) (n7b : inR (I 31 9)) (kt : I 31 9 ≤ x1 → K 31 [some (vR 31), none, none, none, none, none, none, none, none] [] (sh, I, L) (0, 0)) (kf : ¬ (I 31 9 ≤ x1) → K 10 [some (vR 31), some (vI x1), none, none, none, none, none, none, none] [] (sh, I, L) (0, 0)) : K 2 [some (vR 31), some (vI x1), none, none, none, none, none, none, none] [] (sh, I, L) (0, 0) := by
  refine hK.1 2 [some (vR 31), some (vI x1), none, none, none, none, none, none, none] [] (sh, I, L) (0, 0) ?_
  refine hK.1 3 [some (vR 31), some (vI x1), none, none, none, none, none, none, none] [vI x1] (sh, I, L) (0, 0) ?_
  refine hK.1 4 [some (vR 31), some (vI x1), none, none, none, none, none, none, none] [vR 31, vI x1] (sh, I, L) (0, 0) ?_
  refine And.intro (mem1 (sk_31 hs)) ?_
  refine hK.1 7 [some (vR 31), some (vI x1), none, none, none, none, none, none, none] [vI (I 31 9), vI x1] (sh, I, L) (0, 0) ?_
  exact And.intro (And.intro n7a n7b) (And.intro (fun h => hK.2 [true, false, false, false, false, false, false, false, false] _ _ _ _ _ (kt h)) (fun h => hK.2 [true, true, false, false, false, false, false, false, false] _ _ _ _ _ (kf h)))
set_option maxRecDepth 4000 in
theorem B_X7_measure_10 {Q : oQ} {K : oK} (hK : oCl tb_X7_measure Q K) {sh : oS} (hs : Sh sh) {I : Nat → Nat → Int} {L : Nat → Nat → Int64} {x1 : Int} (b17 : 0 ≤ x1 ∧ x1 < 324) (k : K 2 [some (vR 31), some (vI (x1 + 1)), none, none, none, none, none, none, none] [] (sh, (u2 (u2 I 37 (x1.toNat) 268435456) 40 (x1.toNat) 0), L) (0, 0)) : K 10 [some (vR 31), some (vI x1), none, none, none, none, none, none, none] [] (sh, I, L) (0, 0) := by
  refine hK.1 10 [some (vR 31), some (vI x1), none, none, none, none, none, none, none] [] (sh, I, L) (0, 0) ?_
  refine hK.1 11 [some (vR 31), some (vI x1), none, none, none, none, none, none, none] [vR 31] (sh, I, L) (0, 0) ?_
  refine And.intro (mem1 (sk_31 hs)) (Exists.intro 37 (And.intro (sr_31_5 hs) ?_))
  refine hK.1 14 [some (vR 31), some (vI x1), none, none, none, none, none, none, none] [vR 37] (sh, I, L) (0, 0) ?_
  refine hK.1 15 [some (vR 31), some (vI x1), none, none, none, none, none, none, none] [vI x1, vR 37] (sh, I, L) (0, 0) ?_
  refine hK.1 17 [some (vR 31), some (vI x1), none, none, none, none, none, none, none] [vI 268435456, vI x1, vR 37] (sh, I, L) (0, 0) ?_
  refine And.intro (And.intro (sk_37 hs) (ixL (sl_37 hs) b17)) ?_
  refine hK.1 18 [some (vR 31), some (vI x1), none, none, none, none, none, none, none] [] (sh, (u2 I 37 (x1.toNat) 268435456), L) (0, 0) ?_
  refine hK.1 19 [some (vR 31), some (vI x1), none, none, none, none, none, none, none] [vR 31] (sh, (u2 I 37 (x1.toNat) 268435456), L) (0, 0) ?_
  refine And.intro (mem1 (sk_31 hs)) (Exists.intro 40 (And.intro (sr_31_8 hs) ?_))
  refine hK.1 22 [some (vR 31), some (vI x1), none, none, none, none, none, none, none] [vR 40] (sh, (u2 I 37 (x1.toNat) 268435456), L) (0, 0) ?_
  refine hK.1 23 [some (vR 31), some (vI x1), none, none, none, none, none, none, none] [vI x1, vR 40] (sh, (u2 I 37 (x1.toNat) 268435456), L) (0, 0) ?_
  refine hK.1 24 [some (vR 31), some (vI x1), none, none, none, none, none, none, none] [vI 0, vI x1, vR 40] (sh, (u2 I 37 (x1.toNat) 268435456), L) (0, 0) ?_
  refine And.intro (And.intro (sk_40 hs) (And.intro ((ixL (sl_40 hs) b17)).1 (And.intro ((ixL (sl_40 hs) b17)).2 (by decide)))) ?_
  refine hK.1 25 [some (vR 31), some (vI x1), none, none, none, none, none, none, none] [] (sh, (u2 (u2 I 37 (x1.toNat) 268435456) 40 (x1.toNat) 0), L) (0, 0) ?_
  refine hK.1 28 [some (vR 31), some (vI (x1 + 1)), none, none, none, none, none, none, none] [] (sh, (u2 (u2 I 37 (x1.toNat) 268435456) 40 (x1.toNat) 0), L) (0, 0) ?_
  exact k
set_option maxRecDepth 4000 in
theorem B_X7_measure_31 {Q : oQ} {K : oK} (hK : oCl tb_X7_measure Q K) {sh : oS} (hs : Sh sh) {I : Nat → Nat → Int} {L : Nat → Nat → Int64}  (k : K 51 [some (vR 31), some (vI 0), some (vI 1), some (vI 0), none, none, none, none, none] [] (sh, (u2 (u2 I 37 0 0) 38 0 0), L) (0, 0)) : K 31 [some (vR 31), none, none, none, none, none, none, none, none] [] (sh, I, L) (0, 0) := by
  refine hK.1 31 [some (vR 31), none, none, none, none, none, none, none, none] [] (sh, I, L) (0, 0) ?_
  refine hK.1 32 [some (vR 31), none, none, none, none, none, none, none, none] [vR 31] (sh, I, L) (0, 0) ?_
  refine And.intro (mem1 (sk_31 hs)) (Exists.intro 37 (And.intro (sr_31_5 hs) ?_))
  refine hK.1 35 [some (vR 31), none, none, none, none, none, none, none, none] [vR 37] (sh, I, L) (0, 0) ?_
  refine hK.1 36 [some (vR 31), none, none, none, none, none, none, none, none] [vI 0, vR 37] (sh, I, L) (0, 0) ?_
  refine hK.1 37 [some (vR 31), none, none, none, none, none, none, none, none] [vI 0, vI 0, vR 37] (sh, I, L) (0, 0) ?_
  refine And.intro (And.intro (sk_37 hs) (ixL (sl_37 hs) ⟨by decide, by decide⟩)) ?_
  refine hK.1 38 [some (vR 31), none, none, none, none, none, none, none, none] [] (sh, (u2 I 37 0 0), L) (0, 0) ?_
  refine hK.1 39 [some (vR 31), none, none, none, none, none, none, none, none] [vR 31] (sh, (u2 I 37 0 0), L) (0, 0) ?_
  refine And.intro (mem1 (sk_31 hs)) (Exists.intro 38 (And.intro (sr_31_6 hs) ?_))
  refine hK.1 42 [some (vR 31), none, none, none, none, none, none, none, none] [vR 38] (sh, (u2 I 37 0 0), L) (0, 0) ?_
  refine hK.1 43 [some (vR 31), none, none, none, none, none, none, none, none] [vI 0, vR 38] (sh, (u2 I 37 0 0), L) (0, 0) ?_
  refine hK.1 44 [some (vR 31), none, none, none, none, none, none, none, none] [vI 0, vI 0, vR 38] (sh, (u2 I 37 0 0), L) (0, 0) ?_
  refine And.intro (And.intro (sk_38 hs) (ixL (sl_38 hs) ⟨by decide, by decide⟩)) ?_
  refine hK.1 45 [some (vR 31), none, none, none, none, none, none, none, none] [] (sh, (u2 (u2 I 37 0 0) 38 0 0), L) (0, 0) ?_
  refine hK.1 46 [some (vR 31), none, none, none, none, none, none, none, none] [vI 0] (sh, (u2 (u2 I 37 0 0) 38 0 0), L) (0, 0) ?_
  refine hK.1 47 [some (vR 31), some (vI 0), none, none, none, none, none, none, none] [] (sh, (u2 (u2 I 37 0 0) 38 0 0), L) (0, 0) ?_
  refine hK.1 48 [some (vR 31), some (vI 0), none, none, none, none, none, none, none] [vI 1] (sh, (u2 (u2 I 37 0 0) 38 0 0), L) (0, 0) ?_
  refine hK.1 49 [some (vR 31), some (vI 0), some (vI 1), none, none, none, none, none, none] [] (sh, (u2 (u2 I 37 0 0) 38 0 0), L) (0, 0) ?_
  refine hK.1 50 [some (vR 31), some (vI 0), some (vI 1), none, none, none, none, none, none] [vI 0] (sh, (u2 (u2 I 37 0 0) 38 0 0), L) (0, 0) ?_
  exact k
set_option maxRecDepth 4000 in
theorem B_X7_measure_51 {Q : oQ} {K : oK} (hK : oCl tb_X7_measure Q K) {sh : oS} {I : Nat → Nat → Int} {L : Nat → Nat → Int64} {x1 : Int} {x2 : Int} {x3 : Int} (n54a : inR x3) (kt : 104976 ≤ x3 → K 261 [some (vR 31), none, none, none, none, none, none, none, none] [] (sh, I, L) (0, 0)) (kf : ¬ (104976 ≤ x3) → K 57 [some (vR 31), some (vI x1), some (vI x2), some (vI x3), none, none, none, none, none] [] (sh, I, L) (0, 0)) : K 51 [some (vR 31), some (vI x1), some (vI x2), some (vI x3), none, none, none, none, none] [] (sh, I, L) (0, 0) := by
  refine hK.1 51 [some (vR 31), some (vI x1), some (vI x2), some (vI x3), none, none, none, none, none] [] (sh, I, L) (0, 0) ?_
  refine hK.1 52 [some (vR 31), some (vI x1), some (vI x2), some (vI x3), none, none, none, none, none] [vI x3] (sh, I, L) (0, 0) ?_
  refine hK.1 54 [some (vR 31), some (vI x1), some (vI x2), some (vI x3), none, none, none, none, none] [vI 104976, vI x3] (sh, I, L) (0, 0) ?_
  exact And.intro (And.intro n54a ⟨by decide, by decide⟩) (And.intro (fun h => hK.2 [true, false, false, false, false, false, false, false, false] _ _ _ _ _ (kt h)) (fun h => hK.2 [true, true, true, true, false, false, false, false, false] _ _ _ _ _ (kf h)))
set_option maxRecDepth 4000 in
theorem B_X7_measure_57 {Q : oQ} {K : oK} (hK : oCl tb_X7_measure Q K) {sh : oS} {I : Nat → Nat → Int} {L : Nat → Nat → Int64} {x1 : Int} {x2 : Int} {x3 : Int} (n58 : inR x2) (kt : x2 ≤ 0 → K 261 [some (vR 31), none, none, none, none, none, none, none, none] [] (sh, I, L) (0, 0)) (kf : ¬ (x2 ≤ 0) → K 61 [some (vR 31), some (vI x1), some (vI x2), some (vI x3), none, none, none, none, none] [] (sh, I, L) (0, 0)) : K 57 [some (vR 31), some (vI x1), some (vI x2), some (vI x3), none, none, none, none, none] [] (sh, I, L) (0, 0) := by
  refine hK.1 57 [some (vR 31), some (vI x1), some (vI x2), some (vI x3), none, none, none, none, none] [] (sh, I, L) (0, 0) ?_
  refine hK.1 58 [some (vR 31), some (vI x1), some (vI x2), some (vI x3), none, none, none, none, none] [vI x2] (sh, I, L) (0, 0) ?_
  exact And.intro (n58) (And.intro (fun h => hK.2 [true, false, false, false, false, false, false, false, false] _ _ _ _ _ (kt h)) (fun h => hK.2 [true, true, true, true, false, false, false, false, false] _ _ _ _ _ (kf h)))
set_option maxRecDepth 4000 in
theorem B_X7_measure_61 {Q : oQ} {K : oK} (hK : oCl tb_X7_measure Q K) {sh : oS} (hs : Sh sh) {I : Nat → Nat → Int} {L : Nat → Nat → Int64} {x1 : Int} {x2 : Int} {x3 : Int} (b66 : 0 ≤ x1 ∧ x1 < 324) (n75a : inR (x1 + 1)) (kt : ¬ x1 + 1 = 324 → K 82 [some (vR 31), some (vI x1), some (vI x2), some (vI x3), some (vI (I 38 (x1.toNat))), none, none, none, none] [] (sh, I, L) (0, 0)) (kf : ¬ (¬ x1 + 1 = 324) → K 78 [some (vR 31), none, some (vI x2), some (vI x3), some (vI (I 38 (x1.toNat))), none, none, none, none] [] (sh, I, L) (0, 0)) : K 61 [some (vR 31), some (vI x1), some (vI x2), some (vI x3), none, none, none, none, none] [] (sh, I, L) (0, 0) := by
  refine hK.1 61 [some (vR 31), some (vI x1), some (vI x2), some (vI x3), none, none, none, none, none] [] (sh, I, L) (0, 0) ?_
  refine hK.1 62 [some (vR 31), some (vI x1), some (vI x2), some (vI x3), none, none, none, none, none] [vR 31] (sh, I, L) (0, 0) ?_
  refine And.intro (mem1 (sk_31 hs)) (Exists.intro 38 (And.intro (sr_31_6 hs) ?_))
  refine hK.1 65 [some (vR 31), some (vI x1), some (vI x2), some (vI x3), none, none, none, none, none] [vR 38] (sh, I, L) (0, 0) ?_
  refine hK.1 66 [some (vR 31), some (vI x1), some (vI x2), some (vI x3), none, none, none, none, none] [vI x1, vR 38] (sh, I, L) (0, 0) ?_
  refine And.intro (And.intro (sk_38 hs) (ixL (sl_38 hs) b66)) ?_
  refine hK.1 67 [some (vR 31), some (vI x1), some (vI x2), some (vI x3), none, none, none, none, none] [vI (I 38 (x1.toNat))] (sh, I, L) (0, 0) ?_
  refine hK.1 69 [some (vR 31), some (vI x1), some (vI x2), some (vI x3), some (vI (I 38 (x1.toNat))), none, none, none, none] [] (sh, I, L) (0, 0) ?_
  refine hK.1 70 [some (vR 31), some (vI x1), some (vI x2), some (vI x3), some (vI (I 38 (x1.toNat))), none, none, none, none] [vI x1] (sh, I, L) (0, 0) ?_
  refine hK.1 71 [some (vR 31), some (vI x1), some (vI x2), some (vI x3), some (vI (I 38 (x1.toNat))), none, none, none, none] [vI 1, vI x1] (sh, I, L) (0, 0) ?_
  refine hK.1 72 [some (vR 31), some (vI x1), some (vI x2), some (vI x3), some (vI (I 38 (x1.toNat))), none, none, none, none] [vI (x1 + 1)] (sh, I, L) (0, 0) ?_
  refine hK.1 75 [some (vR 31), some (vI x1), some (vI x2), some (vI x3), some (vI (I 38 (x1.toNat))), none, none, none, none] [vI 324, vI (x1 + 1)] (sh, I, L) (0, 0) ?_
  exact And.intro (And.intro n75a ⟨by decide, by decide⟩) (And.intro (fun h => hK.2 [true, true, true, true, true, false, false, false, false] _ _ _ _ _ (kt h)) (fun h => hK.2 [true, false, true, true, true, false, false, false, false] _ _ _ _ _ (kf h)))
set_option maxRecDepth 4000 in
theorem B_X7_measure_78 {Q : oQ} {K : oK} (hK : oCl tb_X7_measure Q K) {sh : oS} {I : Nat → Nat → Int} {L : Nat → Nat → Int64} {x2 : Int} {x3 : Int} {x4 : Int} (k : K 85 [some (vR 31), none, some (vI x2), some (vI x3), some (vI x4), none, none, none, none] [vI 0] (sh, I, L) (0, 0)) : K 78 [some (vR 31), none, some (vI x2), some (vI x3), some (vI x4), none, none, none, none] [] (sh, I, L) (0, 0) := by
  refine hK.1 78 [some (vR 31), none, some (vI x2), some (vI x3), some (vI x4), none, none, none, none] [] (sh, I, L) (0, 0) ?_
  refine hK.1 79 [some (vR 31), none, some (vI x2), some (vI x3), some (vI x4), none, none, none, none] [vI 0] (sh, I, L) (0, 0) ?_
  exact k
set_option maxRecDepth 4000 in
theorem B_X7_measure_82 {Q : oQ} {K : oK} (hK : oCl tb_X7_measure Q K) {sh : oS} {I : Nat → Nat → Int} {L : Nat → Nat → Int64} {x1 : Int} {x2 : Int} {x3 : Int} {x4 : Int} (k : K 85 [some (vR 31), none, some (vI x2), some (vI x3), some (vI x4), none, none, none, none] [vI (x1 + 1)] (sh, I, L) (0, 0)) : K 82 [some (vR 31), some (vI x1), some (vI x2), some (vI x3), some (vI x4), none, none, none, none] [] (sh, I, L) (0, 0) := by
  refine hK.1 82 [some (vR 31), some (vI x1), some (vI x2), some (vI x3), some (vI x4), none, none, none, none] [] (sh, I, L) (0, 0) ?_
  refine hK.1 83 [some (vR 31), some (vI x1), some (vI x2), some (vI x3), some (vI x4), none, none, none, none] [vI x1] (sh, I, L) (0, 0) ?_
  refine hK.1 84 [some (vR 31), some (vI x1), some (vI x2), some (vI x3), some (vI x4), none, none, none, none] [vI 1, vI x1] (sh, I, L) (0, 0) ?_
  refine hK.2 [true, false, true, true, true, false, false, false, false] _ _ _ _ _ ?_
  exact k
set_option maxRecDepth 4000 in
theorem B_X7_measure_85 {Q : oQ} {K : oK} (hK : oCl tb_X7_measure Q K) {sh : oS} (hs : Sh sh) {I : Nat → Nat → Int} {L : Nat → Nat → Int64} {x2 : Int} {x3 : Int} {x4 : Int} {s0 : Int} (b96 : 0 ≤ x4 ∧ x4 < 324) (k : K 112 [some (vR 31), some (vI s0), some (vI (x2 + (-1))), some (vI x3), some (vI x4), some (vI (I 36 (x4.toNat))), some (vI (I 31 10)), none, none] [] (sh, (u2 I 40 (x4.toNat) 0), L) (0, 0)) : K 85 [some (vR 31), none, some (vI x2), some (vI x3), some (vI x4), none, none, none, none] [vI s0] (sh, I, L) (0, 0) := by
  refine hK.1 85 [some (vR 31), none, some (vI x2), some (vI x3), some (vI x4), none, none, none, none] [vI s0] (sh, I, L) (0, 0) ?_
  refine hK.1 86 [some (vR 31), some (vI s0), some (vI x2), some (vI x3), some (vI x4), none, none, none, none] [] (sh, I, L) (0, 0) ?_
  refine hK.1 89 [some (vR 31), some (vI s0), some (vI (x2 + (-1))), some (vI x3), some (vI x4), none, none, none, none] [] (sh, I, L) (0, 0) ?_
  refine hK.1 90 [some (vR 31), some (vI s0), some (vI (x2 + (-1))), some (vI x3), some (vI x4), none, none, none, none] [vR 31] (sh, I, L) (0, 0) ?_
  refine And.intro (mem1 (sk_31 hs)) (Exists.intro 40 (And.intro (sr_31_8 hs) ?_))
  refine hK.1 93 [some (vR 31), some (vI s0), some (vI (x2 + (-1))), some (vI x3), some (vI x4), none, none, none, none] [vR 40] (sh, I, L) (0, 0) ?_
  refine hK.1 95 [some (vR 31), some (vI s0), some (vI (x2 + (-1))), some (vI x3), some (vI x4), none, none, none, none] [vI x4, vR 40] (sh, I, L) (0, 0) ?_
  refine hK.1 96 [some (vR 31), some (vI s0), some (vI (x2 + (-1))), some (vI x3), some (vI x4), none, none, none, none] [vI 0, vI x4, vR 40] (sh, I, L) (0, 0) ?_
  refine And.intro (And.intro (sk_40 hs) (And.intro ((ixL (sl_40 hs) b96)).1 (And.intro ((ixL (sl_40 hs) b96)).2 (by decide)))) ?_
  refine hK.1 97 [some (vR 31), some (vI s0), some (vI (x2 + (-1))), some (vI x3), some (vI x4), none, none, none, none] [] (sh, (u2 I 40 (x4.toNat) 0), L) (0, 0) ?_
  refine hK.1 98 [some (vR 31), some (vI s0), some (vI (x2 + (-1))), some (vI x3), some (vI x4), none, none, none, none] [vR 31] (sh, (u2 I 40 (x4.toNat) 0), L) (0, 0) ?_
  refine And.intro (mem1 (sk_31 hs)) (Exists.intro 36 (And.intro (sr_31_4 hs) ?_))
  refine hK.1 101 [some (vR 31), some (vI s0), some (vI (x2 + (-1))), some (vI x3), some (vI x4), none, none, none, none] [vR 36] (sh, (u2 I 40 (x4.toNat) 0), L) (0, 0) ?_
  refine hK.1 103 [some (vR 31), some (vI s0), some (vI (x2 + (-1))), some (vI x3), some (vI x4), none, none, none, none] [vI x4, vR 36] (sh, (u2 I 40 (x4.toNat) 0), L) (0, 0) ?_
  refine And.intro (And.intro (sk_36 hs) (ixL (sl_36 hs) b96)) ?_
  refine hK.1 104 [some (vR 31), some (vI s0), some (vI (x2 + (-1))), some (vI x3), some (vI x4), none, none, none, none] [vI (I 36 (x4.toNat))] (sh, (u2 I 40 (x4.toNat) 0), L) (0, 0) ?_
  refine hK.1 106 [some (vR 31), some (vI s0), some (vI (x2 + (-1))), some (vI x3), some (vI x4), some (vI (I 36 (x4.toNat))), none, none, none] [] (sh, (u2 I 40 (x4.toNat) 0), L) (0, 0) ?_
  refine hK.1 107 [some (vR 31), some (vI s0), some (vI (x2 + (-1))), some (vI x3), some (vI x4), some (vI (I 36 (x4.toNat))), none, none, none] [vR 31] (sh, (u2 I 40 (x4.toNat) 0), L) (0, 0) ?_
  refine And.intro (mem1 (sk_31 hs)) ?_
  refine hK.1 110 [some (vR 31), some (vI s0), some (vI (x2 + (-1))), some (vI x3), some (vI x4), some (vI (I 36 (x4.toNat))), none, none, none] [vI (I 31 10)] (sh, (u2 I 40 (x4.toNat) 0), L) (0, 0) ?_
  exact k
set_option maxRecDepth 4000 in
theorem B_X7_measure_112 {Q : oQ} {K : oK} (hK : oCl tb_X7_measure Q K) {sh : oS} {I : Nat → Nat → Int} {L : Nat → Nat → Int64} {x1 : Int} {x2 : Int} {x3 : Int} {x4 : Int} {x5 : Int} {x6 : Int} (n114 : inR x5) (kt : x5 < 0 → K 255 [some (vR 31), some (vI x1), some (vI x2), some (vI x3), none, none, none, none, none] [] (sh, I, L) (0, 0)) (kf : ¬ (x5 < 0) → K 117 [some (vR 31), some (vI x1), some (vI x2), some (vI x3), some (vI x4), some (vI x5), some (vI x6), none, none] [] (sh, I, L) (0, 0)) : K 112 [some (vR 31), some (vI x1), some (vI x2), some (vI x3), some (vI x4), some (vI x5), some (vI x6), none, none] [] (sh, I, L) (0, 0) := by
  refine hK.1 112 [some (vR 31), some (vI x1), some (vI x2), some (vI x3), some (vI x4), some (vI x5), some (vI x6), none, none] [] (sh, I, L) (0, 0) ?_
  refine hK.1 114 [some (vR 31), some (vI x1), some (vI x2), some (vI x3), some (vI x4), some (vI x5), some (vI x6), none, none] [vI x5] (sh, I, L) (0, 0) ?_
  exact And.intro (n114) (And.intro (fun h => hK.2 [true, true, true, true, false, false, false, false, false] _ _ _ _ _ (kt h)) (fun h => hK.2 [true, true, true, true, true, true, true, false, false] _ _ _ _ _ (kf h)))
set_option maxRecDepth 4000 in
theorem B_X7_measure_117 {Q : oQ} {K : oK} (hK : oCl tb_X7_measure Q K) {sh : oS} {I : Nat → Nat → Int} {L : Nat → Nat → Int64} {x1 : Int} {x2 : Int} {x3 : Int} {x4 : Int} {x5 : Int} {x6 : Int} (n119 : inR x6) (kt : x6 ≤ 0 → K 255 [some (vR 31), some (vI x1), some (vI x2), some (vI x3), none, none, none, none, none] [] (sh, I, L) (0, 0)) (kf : ¬ (x6 ≤ 0) → K 122 [some (vR 31), some (vI x1), some (vI x2), some (vI x3), some (vI x4), some (vI x5), some (vI x6), none, none] [] (sh, I, L) (0, 0)) : K 117 [some (vR 31), some (vI x1), some (vI x2), some (vI x3), some (vI x4), some (vI x5), some (vI x6), none, none] [] (sh, I, L) (0, 0) := by
  refine hK.1 117 [some (vR 31), some (vI x1), some (vI x2), some (vI x3), some (vI x4), some (vI x5), some (vI x6), none, none] [] (sh, I, L) (0, 0) ?_
  refine hK.1 119 [some (vR 31), some (vI x1), some (vI x2), some (vI x3), some (vI x4), some (vI x5), some (vI x6), none, none] [vI x6] (sh, I, L) (0, 0) ?_
  exact And.intro (n119) (And.intro (fun h => hK.2 [true, true, true, true, false, false, false, false, false] _ _ _ _ _ (kt h)) (fun h => hK.2 [true, true, true, true, true, true, true, false, false] _ _ _ _ _ (kf h)))
set_option maxRecDepth 4000 in
theorem B_X7_measure_122 {Q : oQ} {K : oK} (hK : oCl tb_X7_measure Q K) {sh : oS} (hs : Sh sh) {I : Nat → Nat → Int} {L : Nat → Nat → Int64} {x1 : Int} {x2 : Int} {x3 : Int} {x4 : Int} {x5 : Int} {x6 : Int} (b128 : 0 ≤ x5 ∧ x5 < 2548) (n138 : inR (I 33 (x5.toNat))) (kt : I 33 (x5.toNat) ≤ 0 → K 240 [some (vR 31), some (vI x1), some (vI x2), some (vI x3), some (vI x4), some (vI x5), some (vI x6), none, none] [] (sh, I, L) (0, 0)) (kf : ¬ (I 33 (x5.toNat) ≤ 0) → K 141 [some (vR 31), some (vI x1), some (vI x2), some (vI x3), some (vI x4), some (vI x5), some (vI x6), some (vI (I 32 (x5.toNat))), none] [] (sh, I, L) (0, 0)) : K 122 [some (vR 31), some (vI x1), some (vI x2), some (vI x3), some (vI x4), some (vI x5), some (vI x6), none, none] [] (sh, I, L) (0, 0) := by
  refine hK.1 122 [some (vR 31), some (vI x1), some (vI x2), some (vI x3), some (vI x4), some (vI x5), some (vI x6), none, none] [] (sh, I, L) (0, 0) ?_
  refine hK.1 123 [some (vR 31), some (vI x1), some (vI x2), some (vI x3), some (vI x4), some (vI x5), some (vI x6), none, none] [vR 31] (sh, I, L) (0, 0) ?_
  refine And.intro (mem1 (sk_31 hs)) (Exists.intro 32 (And.intro (sr_31_0 hs) ?_))
  refine hK.1 126 [some (vR 31), some (vI x1), some (vI x2), some (vI x3), some (vI x4), some (vI x5), some (vI x6), none, none] [vR 32] (sh, I, L) (0, 0) ?_
  refine hK.1 128 [some (vR 31), some (vI x1), some (vI x2), some (vI x3), some (vI x4), some (vI x5), some (vI x6), none, none] [vI x5, vR 32] (sh, I, L) (0, 0) ?_
  refine And.intro (And.intro (sk_32 hs) (ixL (sl_32 hs) b128)) ?_
  refine hK.1 129 [some (vR 31), some (vI x1), some (vI x2), some (vI x3), some (vI x4), some (vI x5), some (vI x6), none, none] [vI (I 32 (x5.toNat))] (sh, I, L) (0, 0) ?_
  refine hK.1 131 [some (vR 31), some (vI x1), some (vI x2), some (vI x3), some (vI x4), some (vI x5), some (vI x6), some (vI (I 32 (x5.toNat))), none] [] (sh, I, L) (0, 0) ?_
  refine hK.1 132 [some (vR 31), some (vI x1), some (vI x2), some (vI x3), some (vI x4), some (vI x5), some (vI x6), some (vI (I 32 (x5.toNat))), none] [vR 31] (sh, I, L) (0, 0) ?_
  refine And.intro (mem1 (sk_31 hs)) (Exists.intro 33 (And.intro (sr_31_1 hs) ?_))
  refine hK.1 135 [some (vR 31), some (vI x1), some (vI x2), some (vI x3), some (vI x4), some (vI x5), some (vI x6), some (vI (I 32 (x5.toNat))), none] [vR 33] (sh, I, L) (0, 0) ?_
  refine hK.1 137 [some (vR 31), some (vI x1), some (vI x2), some (vI x3), some (vI x4), some (vI x5), some (vI x6), some (vI (I 32 (x5.toNat))), none] [vI x5, vR 33] (sh, I, L) (0, 0) ?_
  refine And.intro (And.intro (sk_33 hs) (ixL (sl_33 hs) b128)) ?_
  refine hK.1 138 [some (vR 31), some (vI x1), some (vI x2), some (vI x3), some (vI x4), some (vI x5), some (vI x6), some (vI (I 32 (x5.toNat))), none] [vI (I 33 (x5.toNat))] (sh, I, L) (0, 0) ?_
  exact And.intro (n138) (And.intro (fun h => hK.2 [true, true, true, true, true, true, true, false, false] _ _ _ _ _ (kt h)) (fun h => hK.2 [true, true, true, true, true, true, true, true, false] _ _ _ _ _ (kf h)))
set_option maxRecDepth 4000 in
theorem B_X7_measure_141 {Q : oQ} {K : oK} (hK : oCl tb_X7_measure Q K) {sh : oS} (hs : Sh sh) {I : Nat → Nat → Int} {L : Nat → Nat → Int64} {x1 : Int} {x2 : Int} {x3 : Int} {x4 : Int} {x5 : Int} {x6 : Int} {x7 : Int} (b147 : 0 ≤ x4 ∧ x4 < 324) (b154 : 0 ≤ x5 ∧ x5 < 2548) (b162 : 0 ≤ x7 ∧ x7 < 324) (n163a : inR ((I 37 (x4.toNat)) + (I 34 (x5.toNat)))) (n163b : inR (I 37 (x7.toNat))) (kt : I 37 (x7.toNat) ≤ (I 37 (x4.toNat)) + (I 34 (x5.toNat)) → K 240 [some (vR 31), some (vI x1), some (vI x2), some (vI x3), some (vI x4), some (vI x5), some (vI x6), none, none] [] (sh, I, L) (0, 0)) (kf : ¬ (I 37 (x7.toNat) ≤ (I 37 (x4.toNat)) + (I 34 (x5.toNat))) → K 166 [some (vR 31), some (vI x1), some (vI x2), some (vI x3), some (vI x4), some (vI x5), some (vI x6), some (vI x7), none] [] (sh, I, L) (0, 0)) : K 141 [some (vR 31), some (vI x1), some (vI x2), some (vI x3), some (vI x4), some (vI x5), some (vI x6), some (vI x7), none] [] (sh, I, L) (0, 0) := by
  refine hK.1 141 [some (vR 31), some (vI x1), some (vI x2), some (vI x3), some (vI x4), some (vI x5), some (vI x6), some (vI x7), none] [] (sh, I, L) (0, 0) ?_
  refine hK.1 142 [some (vR 31), some (vI x1), some (vI x2), some (vI x3), some (vI x4), some (vI x5), some (vI x6), some (vI x7), none] [vR 31] (sh, I, L) (0, 0) ?_
  refine And.intro (mem1 (sk_31 hs)) (Exists.intro 37 (And.intro (sr_31_5 hs) ?_))
  refine hK.1 145 [some (vR 31), some (vI x1), some (vI x2), some (vI x3), some (vI x4), some (vI x5), some (vI x6), some (vI x7), none] [vR 37] (sh, I, L) (0, 0) ?_
  refine hK.1 147 [some (vR 31), some (vI x1), some (vI x2), some (vI x3), some (vI x4), some (vI x5), some (vI x6), some (vI x7), none] [vI x4, vR 37] (sh, I, L) (0, 0) ?_
  refine And.intro (And.intro (sk_37 hs) (ixL (sl_37 hs) b147)) ?_
  refine hK.1 148 [some (vR 31), some (vI x1), some (vI x2), some (vI x3), some (vI x4), some (vI x5), some (vI x6), some (vI x7), none] [vI (I 37 (x4.toNat))] (sh, I, L) (0, 0) ?_
  refine hK.1 149 [some (vR 31), some (vI x1), some (vI x2), some (vI x3), some (vI x4), some (vI x5), some (vI x6), some (vI x7), none] [vR 31, vI (I 37 (x4.toNat))] (sh, I, L) (0, 0) ?_
  refine And.intro (mem1 (sk_31 hs)) (Exists.intro 34 (And.intro (sr_31_2 hs) ?_))
  refine hK.1 152 [some (vR 31), some (vI x1), some (vI x2), some (vI x3), some (vI x4), some (vI x5), some (vI x6), some (vI x7), none] [vR 34, vI (I 37 (x4.toNat))] (sh, I, L) (0, 0) ?_
  refine hK.1 154 [some (vR 31), some (vI x1), some (vI x2), some (vI x3), some (vI x4), some (vI x5), some (vI x6), some (vI x7), none] [vI x5, vR 34, vI (I 37 (x4.toNat))] (sh, I, L) (0, 0) ?_
  refine And.intro (And.intro (sk_34 hs) (ixL (sl_34 hs) b154)) ?_
  refine hK.1 155 [some (vR 31), some (vI x1), some (vI x2), some (vI x3), some (vI x4), some (vI x5), some (vI x6), some (vI x7), none] [vI (I 34 (x5.toNat)), vI (I 37 (x4.toNat))] (sh, I, L) (0, 0) ?_
  refine hK.1 156 [some (vR 31), some (vI x1), some (vI x2), some (vI x3), some (vI x4), some (vI x5), some (vI x6), some (vI x7), none] [vI ((I 37 (x4.toNat)) + (I 34 (x5.toNat)))] (sh, I, L) (0, 0) ?_
  refine hK.1 157 [some (vR 31), some (vI x1), some (vI x2), some (vI x3), some (vI x4), some (vI x5), some (vI x6), some (vI x7), none] [vR 31, vI ((I 37 (x4.toNat)) + (I 34 (x5.toNat)))] (sh, I, L) (0, 0) ?_
  refine And.intro (mem1 (sk_31 hs)) (Exists.intro 37 (And.intro (sr_31_5 hs) ?_))
  refine hK.1 160 [some (vR 31), some (vI x1), some (vI x2), some (vI x3), some (vI x4), some (vI x5), some (vI x6), some (vI x7), none] [vR 37, vI ((I 37 (x4.toNat)) + (I 34 (x5.toNat)))] (sh, I, L) (0, 0) ?_
  refine hK.1 162 [some (vR 31), some (vI x1), some (vI x2), some (vI x3), some (vI x4), some (vI x5), some (vI x6), some (vI x7), none] [vI x7, vR 37, vI ((I 37 (x4.toNat)) + (I 34 (x5.toNat)))] (sh, I, L) (0, 0) ?_
  refine And.intro (And.intro (sk_37 hs) (ixL (sl_37 hs) b162)) ?_
  refine hK.1 163 [some (vR 31), some (vI x1), some (vI x2), some (vI x3), some (vI x4), some (vI x5), some (vI x6), some (vI x7), none] [vI (I 37 (x7.toNat)), vI ((I 37 (x4.toNat)) + (I 34 (x5.toNat)))] (sh, I, L) (0, 0) ?_
  exact And.intro (And.intro n163a n163b) (And.intro (fun h => hK.2 [true, true, true, true, true, true, true, false, false] _ _ _ _ _ (kt h)) (fun h => hK.2 [true, true, true, true, true, true, true, true, false] _ _ _ _ _ (kf h)))
set_option maxRecDepth 4000 in
theorem B_X7_measure_166 {Q : oQ} {K : oK} (hK : oCl tb_X7_measure Q K) {sh : oS} (hs : Sh sh) {I : Nat → Nat → Int} {L : Nat → Nat → Int64} {x1 : Int} {x2 : Int} {x3 : Int} {x4 : Int} {x5 : Int} {x6 : Int} {x7 : Int} (b178 : 0 ≤ x4 ∧ x4 < 324) (b185 : 0 ≤ x5 ∧ x5 < 2548) (b187 : 0 ≤ x7 ∧ x7 < 324) (n195 : inR (I 40 (x7.toNat))) (kt : ¬ I 40 (x7.toNat) = 0 → K 240 [some (vR 31), some (vI x1), some (vI x2), some (vI x3), some (vI x4), some (vI x5), some (vI x6), none, none] [] (sh, (u2 I 37 (x7.toNat) ((I 37 (x4.toNat)) + (I 34 (x5.toNat)))), L) (0, 0)) (kf : ¬ (¬ I 40 (x7.toNat) = 0) → K 198 [some (vR 31), some (vI x1), some (vI x2), some (vI x3), some (vI x4), some (vI x5), some (vI x6), some (vI x7), none] [] (sh, (u2 I 37 (x7.toNat) ((I 37 (x4.toNat)) + (I 34 (x5.toNat)))), L) (0, 0)) : K 166 [some (vR 31), some (vI x1), some (vI x2), some (vI x3), some (vI x4), some (vI x5), some (vI x6), some (vI x7), none] [] (sh, I, L) (0, 0) := by
  refine hK.1 166 [some (vR 31), some (vI x1), some (vI x2), some (vI x3), some (vI x4), some (vI x5), some (vI x6), some (vI x7), none] [] (sh, I, L) (0, 0) ?_
  refine hK.1 167 [some (vR 31), some (vI x1), some (vI x2), some (vI x3), some (vI x4), some (vI x5), some (vI x6), some (vI x7), none] [vR 31] (sh, I, L) (0, 0) ?_
  refine And.intro (mem1 (sk_31 hs)) (Exists.intro 37 (And.intro (sr_31_5 hs) ?_))
  refine hK.1 170 [some (vR 31), some (vI x1), some (vI x2), some (vI x3), some (vI x4), some (vI x5), some (vI x6), some (vI x7), none] [vR 37] (sh, I, L) (0, 0) ?_
  refine hK.1 172 [some (vR 31), some (vI x1), some (vI x2), some (vI x3), some (vI x4), some (vI x5), some (vI x6), some (vI x7), none] [vI x7, vR 37] (sh, I, L) (0, 0) ?_
  refine hK.1 173 [some (vR 31), some (vI x1), some (vI x2), some (vI x3), some (vI x4), some (vI x5), some (vI x6), some (vI x7), none] [vR 31, vI x7, vR 37] (sh, I, L) (0, 0) ?_
  refine And.intro (mem1 (sk_31 hs)) (Exists.intro 37 (And.intro (sr_31_5 hs) ?_))
  refine hK.1 176 [some (vR 31), some (vI x1), some (vI x2), some (vI x3), some (vI x4), some (vI x5), some (vI x6), some (vI x7), none] [vR 37, vI x7, vR 37] (sh, I, L) (0, 0) ?_
  refine hK.1 178 [some (vR 31), some (vI x1), some (vI x2), some (vI x3), some (vI x4), some (vI x5), some (vI x6), some (vI x7), none] [vI x4, vR 37, vI x7, vR 37] (sh, I, L) (0, 0) ?_
  refine And.intro (And.intro (sk_37 hs) (ixL (sl_37 hs) b178)) ?_
  refine hK.1 179 [some (vR 31), some (vI x1), some (vI x2), some (vI x3), some (vI x4), some (vI x5), some (vI x6), some (vI x7), none] [vI (I 37 (x4.toNat)), vI x7, vR 37] (sh, I, L) (0, 0) ?_
  refine hK.1 180 [some (vR 31), some (vI x1), some (vI x2), some (vI x3), some (vI x4), some (vI x5), some (vI x6), some (vI x7), none] [vR 31, vI (I 37 (x4.toNat)), vI x7, vR 37] (sh, I, L) (0, 0) ?_
  refine And.intro (mem1 (sk_31 hs)) (Exists.intro 34 (And.intro (sr_31_2 hs) ?_))
  refine hK.1 183 [some (vR 31), some (vI x1), some (vI x2), some (vI x3), some (vI x4), some (vI x5), some (vI x6), some (vI x7), none] [vR 34, vI (I 37 (x4.toNat)), vI x7, vR 37] (sh, I, L) (0, 0) ?_
  refine hK.1 185 [some (vR 31), some (vI x1), some (vI x2), some (vI x3), some (vI x4), some (vI x5), some (vI x6), some (vI x7), none] [vI x5, vR 34, vI (I 37 (x4.toNat)), vI x7, vR 37] (sh, I, L) (0, 0) ?_
  refine And.intro (And.intro (sk_34 hs) (ixL (sl_34 hs) b185)) ?_
  refine hK.1 186 [some (vR 31), some (vI x1), some (vI x2), some (vI x3), some (vI x4), some (vI x5), some (vI x6), some (vI x7), none] [vI (I 34 (x5.toNat)), vI (I 37 (x4.toNat)), vI x7, vR 37] (sh, I, L) (0, 0) ?_
  refine hK.1 187 [some (vR 31), some (vI x1), some (vI x2), some (vI x3), some (vI x4), some (vI x5), some (vI x6), some (vI x7), none] [vI ((I 37 (x4.toNat)) + (I 34 (x5.toNat))), vI x7, vR 37] (sh, I, L) (0, 0) ?_
  refine And.intro (And.intro (sk_37 hs) (ixL (sl_37 hs) b187)) ?_
  refine hK.1 188 [some (vR 31), some (vI x1), some (vI x2), some (vI x3), some (vI x4), some (vI x5), some (vI x6), some (vI x7), none] [] (sh, (u2 I 37 (x7.toNat) ((I 37 (x4.toNat)) + (I 34 (x5.toNat)))), L) (0, 0) ?_
  refine hK.1 189 [some (vR 31), some (vI x1), some (vI x2), some (vI x3), some (vI x4), some (vI x5), some (vI x6), some (vI x7), none] [vR 31] (sh, (u2 I 37 (x7.toNat) ((I 37 (x4.toNat)) + (I 34 (x5.toNat)))), L) (0, 0) ?_
  refine And.intro (mem1 (sk_31 hs)) (Exists.intro 40 (And.intro (sr_31_8 hs) ?_))
  refine hK.1 192 [some (vR 31), some (vI x1), some (vI x2), some (vI x3), some (vI x4), some (vI x5), some (vI x6), some (vI x7), none] [vR 40] (sh, (u2 I 37 (x7.toNat) ((I 37 (x4.toNat)) + (I 34 (x5.toNat)))), L) (0, 0) ?_
  refine hK.1 194 [some (vR 31), some (vI x1), some (vI x2), some (vI x3), some (vI x4), some (vI x5), some (vI x6), some (vI x7), none] [vI x7, vR 40] (sh, (u2 I 37 (x7.toNat) ((I 37 (x4.toNat)) + (I 34 (x5.toNat)))), L) (0, 0) ?_
  refine And.intro (And.intro (sk_40 hs) (ixL (sl_40 hs) b187)) ?_
  refine hK.1 195 [some (vR 31), some (vI x1), some (vI x2), some (vI x3), some (vI x4), some (vI x5), some (vI x6), some (vI x7), none] [vI (I 40 (x7.toNat))] (sh, (u2 I 37 (x7.toNat) ((I 37 (x4.toNat)) + (I 34 (x5.toNat)))), L) (0, 0) ?_
  exact And.intro (n195) (And.intro (fun h => hK.2 [true, true, true, true, true, true, true, false, false] _ _ _ _ _ (kt h)) (fun h => hK.2 [true, true, true, true, true, true, true, true, false] _ _ _ _ _ (kf h)))
set_option maxRecDepth 4000 in
theorem B_X7_measure_198 {Q : oQ} {K : oK} (hK : oCl tb_X7_measure Q K) {sh : oS} (hs : Sh sh) {I : Nat → Nat → Int} {L : Nat → Nat → Int64} {x1 : Int} {x2 : Int} {x3 : Int} {x4 : Int} {x5 : Int} {x6 : Int} {x7 : Int} (b205 : 0 ≤ x7 ∧ x7 < 324) (n220a : inR (x1 + x2)) (kt : x1 + x2 < 324 → K 232 [some (vR 31), some (vI x1), some (vI x2), some (vI x3), some (vI x4), some (vI x5), some (vI x6), some (vI x7), some (vI (x1 + x2))] [vR 38] (sh, (u2 I 40 (x7.toNat) 1), L) (0, 0)) (kf : ¬ (x1 + x2 < 324) → K 223 [some (vR 31), some (vI x1), some (vI x2), some (vI x3), some (vI x4), some (vI x5), some (vI x6), some (vI x7), some (vI (x1 + x2))] [vR 38] (sh, (u2 I 40 (x7.toNat) 1), L) (0, 0)) : K 198 [some (vR 31), some (vI x1), some (vI x2), some (vI x3), some (vI x4), some (vI x5), some (vI x6), some (vI x7), none] [] (sh, I, L) (0, 0) := by
  refine hK.1 198 [some (vR 31), some (vI x1), some (vI x2), some (vI x3), some (vI x4), some (vI x5), some (vI x6), some (vI x7), none] [] (sh, I, L) (0, 0) ?_
  refine hK.1 199 [some (vR 31), some (vI x1), some (vI x2), some (vI x3), some (vI x4), some (vI x5), some (vI x6), some (vI x7), none] [vR 31] (sh, I, L) (0, 0) ?_
  refine And.intro (mem1 (sk_31 hs)) (Exists.intro 40 (And.intro (sr_31_8 hs) ?_))
  refine hK.1 202 [some (vR 31), some (vI x1), some (vI x2), some (vI x3), some (vI x4), some (vI x5), some (vI x6), some (vI x7), none] [vR 40] (sh, I, L) (0, 0) ?_
  refine hK.1 204 [some (vR 31), some (vI x1), some (vI x2), some (vI x3), some (vI x4), some (vI x5), some (vI x6), some (vI x7), none] [vI x7, vR 40] (sh, I, L) (0, 0) ?_
  refine hK.1 205 [some (vR 31), some (vI x1), some (vI x2), some (vI x3), some (vI x4), some (vI x5), some (vI x6), some (vI x7), none] [vI 1, vI x7, vR 40] (sh, I, L) (0, 0) ?_
  refine And.intro (And.intro (sk_40 hs) (And.intro ((ixL (sl_40 hs) b205)).1 (And.intro ((ixL (sl_40 hs) b205)).2 (by decide)))) ?_
  refine hK.1 206 [some (vR 31), some (vI x1), some (vI x2), some (vI x3), some (vI x4), some (vI x5), some (vI x6), some (vI x7), none] [] (sh, (u2 I 40 (x7.toNat) 1), L) (0, 0) ?_
  refine hK.1 207 [some (vR 31), some (vI x1), some (vI x2), some (vI x3), some (vI x4), some (vI x5), some (vI x6), some (vI x7), none] [vI x1] (sh, (u2 I 40 (x7.toNat) 1), L) (0, 0) ?_
  refine hK.1 208 [some (vR 31), some (vI x1), some (vI x2), some (vI x3), some (vI x4), some (vI x5), some (vI x6), some (vI x7), none] [vI x2, vI x1] (sh, (u2 I 40 (x7.toNat) 1), L) (0, 0) ?_
  refine hK.1 209 [some (vR 31), some (vI x1), some (vI x2), some (vI x3), some (vI x4), some (vI x5), some (vI x6), some (vI x7), none] [vI (x1 + x2)] (sh, (u2 I 40 (x7.toNat) 1), L) (0, 0) ?_
  refine hK.1 211 [some (vR 31), some (vI x1), some (vI x2), some (vI x3), some (vI x4), some (vI x5), some (vI x6), some (vI x7), some (vI (x1 + x2))] [] (sh, (u2 I 40 (x7.toNat) 1), L) (0, 0) ?_
  refine hK.1 212 [some (vR 31), some (vI x1), some (vI x2), some (vI x3), some (vI x4), some (vI x5), some (vI x6), some (vI x7), some (vI (x1 + x2))] [vR 31] (sh, (u2 I 40 (x7.toNat) 1), L) (0, 0) ?_
  refine And.intro (mem1 (sk_31 hs)) (Exists.intro 38 (And.intro (sr_31_6 hs) ?_))
  refine hK.1 215 [some (vR 31), some (vI x1), some (vI x2), some (vI x3), some (vI x4), some (vI x5), some (vI x6), some (vI x7), some (vI (x1 + x2))] [vR 38] (sh, (u2 I 40 (x7.toNat) 1), L) (0, 0) ?_
  refine hK.1 217 [some (vR 31), some (vI x1), some (vI x2), some (vI x3), some (vI x4), some (vI x5), some (vI x6), some (vI x7), some (vI (x1 + x2))] [vI (x1 + x2), vR 38] (sh, (u2 I 40 (x7.toNat) 1), L) (0, 0) ?_
  refine hK.1 220 [some (vR 31), some (vI x1), some (vI x2), some (vI x3), some (vI x4), some (vI x5), some (vI x6), some (vI x7), some (vI (x1 + x2))] [vI 324, vI (x1 + x2), vR 38] (sh, (u2 I 40 (x7.toNat) 1), L) (0, 0) ?_
  exact And.intro (And.intro n220a ⟨by decide, by decide⟩) (And.intro (fun h => hK.2 [true, true, true, true, true, true, true, true, true] _ _ _ _ _ (kt h)) (fun h => hK.2 [true, true, true, true, true, true, true, true, true] _ _ _ _ _ (kf h)))
set_option maxRecDepth 4000 in
theorem B_X7_measure_223 {Q : oQ} {K : oK} (hK : oCl tb_X7_measure Q K) {sh : oS} {I : Nat → Nat → Int} {L : Nat → Nat → Int64} {x1 : Int} {x2 : Int} {x3 : Int} {x4 : Int} {x5 : Int} {x6 : Int} {x7 : Int} {x8 : Int} (k : K 234 [some (vR 31), some (vI x1), some (vI x2), some (vI x3), some (vI x4), some (vI x5), some (vI x6), some (vI x7), none] [vI (x8 - 324), vR 38] (sh, I, L) (0, 0)) : K 223 [some (vR 31), some (vI x1), some (vI x2), some (vI x3), some (vI x4), some (vI x5), some (vI x6), some (vI x7), some (vI x8)] [vR 38] (sh, I, L) (0, 0) := by
  refine hK.1 223 [some (vR 31), some (vI x1), some (vI x2), some (vI x3), some (vI x4), some (vI x5), some (vI x6), some (vI x7), some (vI x8)] [vR 38] (sh, I, L) (0, 0) ?_
  refine hK.1 225 [some (vR 31), some (vI x1), some (vI x2), some (vI x3), some (vI x4), some (vI x5), some (vI x6), some (vI x7), some (vI x8)] [vI x8, vR 38] (sh, I, L) (0, 0) ?_
  refine hK.1 228 [some (vR 31), some (vI x1), some (vI x2), some (vI x3), some (vI x4), some (vI x5), some (vI x6), some (vI x7), some (vI x8)] [vI 324, vI x8, vR 38] (sh, I, L) (0, 0) ?_
  refine hK.1 229 [some (vR 31), some (vI x1), some (vI x2), some (vI x3), some (vI x4), some (vI x5), some (vI x6), some (vI x7), some (vI x8)] [vI (x8 - 324), vR 38] (sh, I, L) (0, 0) ?_
  refine hK.2 [true, true, true, true, true, true, true, true, false] _ _ _ _ _ ?_
  exact k
set_option maxRecDepth 4000 in
theorem B_X7_measure_232 {Q : oQ} {K : oK} (hK : oCl tb_X7_measure Q K) {sh : oS} {I : Nat → Nat → Int} {L : Nat → Nat → Int64} {x1 : Int} {x2 : Int} {x3 : Int} {x4 : Int} {x5 : Int} {x6 : Int} {x7 : Int} {x8 : Int} (k : K 234 [some (vR 31), some (vI x1), some (vI x2), some (vI x3), some (vI x4), some (vI x5), some (vI x6), some (vI x7), none] [vI x8, vR 38] (sh, I, L) (0, 0)) : K 232 [some (vR 31), some (vI x1), some (vI x2), some (vI x3), some (vI x4), some (vI x5), some (vI x6), some (vI x7), some (vI x8)] [vR 38] (sh, I, L) (0, 0) := by
  refine hK.1 232 [some (vR 31), some (vI x1), some (vI x2), some (vI x3), some (vI x4), some (vI x5), some (vI x6), some (vI x7), some (vI x8)] [vR 38] (sh, I, L) (0, 0) ?_
  refine hK.2 [true, true, true, true, true, true, true, true, false] _ _ _ _ _ ?_
  exact k
set_option maxRecDepth 4000 in
theorem B_X7_measure_234 {Q : oQ} {K : oK} (hK : oCl tb_X7_measure Q K) {sh : oS} (hs : Sh sh) {I : Nat → Nat → Int} {L : Nat → Nat → Int64} {x1 : Int} {x2 : Int} {x3 : Int} {x4 : Int} {x5 : Int} {x6 : Int} {x7 : Int} {s1 : Int} (b236 : 0 ≤ s1 ∧ s1 < 324) (k : K 240 [some (vR 31), some (vI x1), some (vI (x2 + 1)), some (vI x3), some (vI x4), some (vI x5), some (vI x6), none, none] [] (sh, (u2 I 38 (s1.toNat) x7), L) (0, 0)) : K 234 [some (vR 31), some (vI x1), some (vI x2), some (vI x3), some (vI x4), some (vI x5), some (vI x6), some (vI x7), none] [vI s1, vR 38] (sh, I, L) (0, 0) := by
  refine hK.1 234 [some (vR 31), some (vI x1), some (vI x2), some (vI x3), some (vI x4), some (vI x5), some (vI x6), some (vI x7), none] [vI s1, vR 38] (sh, I, L) (0, 0) ?_
  refine hK.1 236 [some (vR 31), some (vI x1), some (vI x2), some (vI x3), some (vI x4), some (vI x5), some (vI x6), some (vI x7), none] [vI x7, vI s1, vR 38] (sh, I, L) (0, 0) ?_
  refine And.intro (And.intro (sk_38 hs) (ixL (sl_38 hs) b236)) ?_
  refine hK.1 237 [some (vR 31), some (vI x1), some (vI x2), some (vI x3), some (vI x4), some (vI x5), some (vI x6), some (vI x7), none] [] (sh, (u2 I 38 (s1.toNat) x7), L) (0, 0) ?_
  refine hK.2 [true, true, true, true, true, true, true, false, false] _ _ _ _ _ ?_
  exact k
set_option maxRecDepth 4000 in
theorem B_X7_measure_240 {Q : oQ} {K : oK} (hK : oCl tb_X7_measure Q K) {sh : oS} (hs : Sh sh) {I : Nat → Nat → Int} {L : Nat → Nat → Int64} {x1 : Int} {x2 : Int} {x3 : Int} {x4 : Int} {x5 : Int} {x6 : Int} (b246 : 0 ≤ x5 ∧ x5 < 2548) (k : K 112 [some (vR 31), some (vI x1), some (vI x2), some (vI x3), some (vI x4), some (vI (I 35 (x5.toNat))), some (vI (x6 + (-1))), none, none] [] (sh, I, L) (0, 0)) : K 240 [some (vR 31), some (vI x1), some (vI x2), some (vI x3), some (vI x4), some (vI x5), some (vI x6), none, none] [] (sh, I, L) (0, 0) := by
  refine hK.1 240 [some (vR 31), some (vI x1), some (vI x2), some (vI x3), some (vI x4), some (vI x5), some (vI x6), none, none] [] (sh, I, L) (0, 0) ?_
  refine hK.1 241 [some (vR 31), some (vI x1), some (vI x2), some (vI x3), some (vI x4), some (vI x5), some (vI x6), none, none] [vR 31] (sh, I, L) (0, 0) ?_
  refine And.intro (mem1 (sk_31 hs)) (Exists.intro 35 (And.intro (sr_31_3 hs) ?_))
  refine hK.1 244 [some (vR 31), some (vI x1), some (vI x2), some (vI x3), some (vI x4), some (vI x5), some (vI x6), none, none] [vR 35] (sh, I, L) (0, 0) ?_
  refine hK.1 246 [some (vR 31), some (vI x1), some (vI x2), some (vI x3), some (vI x4), some (vI x5), some (vI x6), none, none] [vI x5, vR 35] (sh, I, L) (0, 0) ?_
  refine And.intro (And.intro (sk_35 hs) (ixL (sl_35 hs) b246)) ?_
  refine hK.1 247 [some (vR 31), some (vI x1), some (vI x2), some (vI x3), some (vI x4), some (vI x5), some (vI x6), none, none] [vI (I 35 (x5.toNat))] (sh, I, L) (0, 0) ?_
  refine hK.1 249 [some (vR 31), some (vI x1), some (vI x2), some (vI x3), some (vI x4), some (vI (I 35 (x5.toNat))), some (vI x6), none, none] [] (sh, I, L) (0, 0) ?_
  refine hK.1 252 [some (vR 31), some (vI x1), some (vI x2), some (vI x3), some (vI x4), some (vI (I 35 (x5.toNat))), some (vI (x6 + (-1))), none, none] [] (sh, I, L) (0, 0) ?_
  exact k
set_option maxRecDepth 4000 in
theorem B_X7_measure_255 {Q : oQ} {K : oK} (hK : oCl tb_X7_measure Q K) {sh : oS} {I : Nat → Nat → Int} {L : Nat → Nat → Int64} {x1 : Int} {x2 : Int} {x3 : Int} (k : K 51 [some (vR 31), some (vI x1), some (vI x2), some (vI (x3 + 1)), none, none, none, none, none] [] (sh, I, L) (0, 0)) : K 255 [some (vR 31), some (vI x1), some (vI x2), some (vI x3), none, none, none, none, none] [] (sh, I, L) (0, 0) := by
  refine hK.1 255 [some (vR 31), some (vI x1), some (vI x2), some (vI x3), none, none, none, none, none] [] (sh, I, L) (0, 0) ?_
  refine hK.1 258 [some (vR 31), some (vI x1), some (vI x2), some (vI (x3 + 1)), none, none, none, none, none] [] (sh, I, L) (0, 0) ?_
  exact k
set_option maxRecDepth 4000 in
theorem B_X7_measure_261 {Q : oQ} {K : oK} (hK : oCl tb_X7_measure Q K) {sh : oS} (hs : Sh sh) {I : Nat → Nat → Int} {L : Nat → Nat → Int64}  (n269a : inR (I 37 1)) (kt : 268435456 ≤ I 37 1 → K 276 [none, none, none, none, none, none, none, none, none] [] (sh, I, L) (0, 0)) (kf : ¬ (268435456 ≤ I 37 1) → K 272 [none, none, none, none, none, none, none, none, none] [] (sh, I, L) (0, 0)) : K 261 [some (vR 31), none, none, none, none, none, none, none, none] [] (sh, I, L) (0, 0) := by
  refine hK.1 261 [some (vR 31), none, none, none, none, none, none, none, none] [] (sh, I, L) (0, 0) ?_
  refine hK.1 262 [some (vR 31), none, none, none, none, none, none, none, none] [vR 31] (sh, I, L) (0, 0) ?_
  refine And.intro (mem1 (sk_31 hs)) (Exists.intro 37 (And.intro (sr_31_5 hs) ?_))
  refine hK.1 265 [some (vR 31), none, none, none, none, none, none, none, none] [vR 37] (sh, I, L) (0, 0) ?_
  refine hK.1 266 [some (vR 31), none, none, none, none, none, none, none, none] [vI 1, vR 37] (sh, I, L) (0, 0) ?_
  refine And.intro (And.intro (sk_37 hs) (ixL (sl_37 hs) ⟨by decide, by decide⟩)) ?_
  refine hK.1 267 [some (vR 31), none, none, none, none, none, none, none, none] [vI (I 37 1)] (sh, I, L) (0, 0) ?_
  refine hK.1 269 [some (vR 31), none, none, none, none, none, none, none, none] [vI 268435456, vI (I 37 1)] (sh, I, L) (0, 0) ?_
  exact And.intro (And.intro n269a ⟨by decide, by decide⟩) (And.intro (fun h => hK.2 [false, false, false, false, false, false, false, false, false] _ _ _ _ _ (kt h)) (fun h => hK.2 [false, false, false, false, false, false, false, false, false] _ _ _ _ _ (kf h)))
set_option maxRecDepth 4000 in
theorem B_X7_measure_272 {Q : oQ} {K : oK} (hK : oCl tb_X7_measure Q K) {sh : oS} {I : Nat → Nat → Int} {L : Nat → Nat → Int64}  (k : K 277 [none, none, none, none, none, none, none, none, none] [vI 1] (sh, I, L) (0, 0)) : K 272 [none, none, none, none, none, none, none, none, none] [] (sh, I, L) (0, 0) := by
  refine hK.1 272 [none, none, none, none, none, none, none, none, none] [] (sh, I, L) (0, 0) ?_
  refine hK.1 273 [none, none, none, none, none, none, none, none, none] [vI 1] (sh, I, L) (0, 0) ?_
  exact k
set_option maxRecDepth 4000 in
theorem B_X7_measure_276 {Q : oQ} {K : oK} (hK : oCl tb_X7_measure Q K) {sh : oS} {I : Nat → Nat → Int} {L : Nat → Nat → Int64}  (k : K 277 [none, none, none, none, none, none, none, none, none] [vI 0] (sh, I, L) (0, 0)) : K 276 [none, none, none, none, none, none, none, none, none] [] (sh, I, L) (0, 0) := by
  refine hK.1 276 [none, none, none, none, none, none, none, none, none] [] (sh, I, L) (0, 0) ?_
  exact k
set_option maxRecDepth 4000 in
theorem B_X7_measure_277 {Q : oQ} {K : oK} (hK : oCl tb_X7_measure Q K) {sh : oS} {I : Nat → Nat → Int} {L : Nat → Nat → Int64} {s0 : Int} (o277 : s0 = 0 ∨ s0 = 1) (k : Q (some (vI s0)) (sh, I, L)) : K 277 [none, none, none, none, none, none, none, none, none] [vI s0] (sh, I, L) (0, 0) := by
  refine hK.1 277 [none, none, none, none, none, none, none, none, none] [vI s0] (sh, I, L) (0, 0) ?_
  exact And.intro ⟨o277, by decide, by decide⟩ k
set_option maxRecDepth 4000 in
theorem B_X7_thread_0 {Q : oQ} {K : oK} (hK : oCl tb_X7_thread Q K) {sh : oS} {I : Nat → Nat → Int} {L : Nat → Nat → Int64}  (k : K 6 [some (vR 31), some (vI 0), some (vI 0), some (vI 0), none, none] [] (sh, I, L) (0, 0)) : K 0 [some (vR 31), none, none, none, none, none] [] (sh, I, L) (0, 0) := by
  refine hK.1 0 [some (vR 31), none, none, none, none, none] [] (sh, I, L) (0, 0) ?_
  refine hK.1 1 [some (vR 31), none, none, none, none, none] [vI 0] (sh, I, L) (0, 0) ?_
  refine hK.1 2 [some (vR 31), some (vI 0), none, none, none, none] [] (sh, I, L) (0, 0) ?_
  refine hK.1 3 [some (vR 31), some (vI 0), none, none, none, none] [vI 0] (sh, I, L) (0, 0) ?_
  refine hK.1 4 [some (vR 31), some (vI 0), some (vI 0), none, none, none] [] (sh, I, L) (0, 0) ?_
  refine hK.1 5 [some (vR 31), some (vI 0), some (vI 0), none, none, none] [vI 0] (sh, I, L) (0, 0) ?_
  exact k
set_option maxRecDepth 4000 in
theorem B_X7_thread_6 {Q : oQ} {K : oK} (hK : oCl tb_X7_thread Q K) {sh : oS} {I : Nat → Nat → Int} {L : Nat → Nat → Int64} {x1 : Int} {x2 : Int} {x3 : Int} (n10a : inR x3) (kt : 648 ≤ x3 → K 188 [none, some (vI x1), some (vI x2), none, none, none] [] (sh, I, L) (0, 0)) (kf : ¬ (648 ≤ x3) → K 13 [some (vR 31), some (vI x1), some (vI x2), some (vI x3), none, none] [] (sh, I, L) (0, 0)) : K 6 [some (vR 31), some (vI x1), some (vI x2), some (vI x3), none, none] [] (sh, I, L) (0, 0) := by
  refine hK.1 6 [some (vR 31), some (vI x1), some (vI x2), some (vI x3), none, none] [] (sh, I, L) (0, 0) ?_
  refine hK.1 7 [some (vR 31), some (vI x1), some (vI x2), some (vI x3), none, none] [vI x3] (sh, I, L) (0, 0) ?_
  refine hK.1 10 [some (vR 31), some (vI x1), some (vI x2), some (vI x3), none, none] [vI 648, vI x3] (sh, I, L) (0, 0) ?_
  exact And.intro (And.intro n10a ⟨by decide, by decide⟩) (And.intro (fun h => hK.2 [false, true, true, false, false, false] _ _ _ _ _ (kt h)) (fun h => hK.2 [true, true, true, true, false, false] _ _ _ _ _ (kf h)))
set_option maxRecDepth 4000 in
theorem B_X7_thread_13 {Q : oQ} {K : oK} (hK : oCl tb_X7_thread Q K) {sh : oS} {I : Nat → Nat → Int} {L : Nat → Nat → Int64} {x1 : Int} {x2 : Int} {x3 : Int} (n15a : inR x1) (kt : x1 = 1 → K 188 [none, some (vI x1), some (vI x2), none, none, none] [] (sh, I, L) (0, 0)) (kf : ¬ (x1 = 1) → K 18 [some (vR 31), some (vI x1), some (vI x2), some (vI x3), none, none] [] (sh, I, L) (0, 0)) : K 13 [some (vR 31), some (vI x1), some (vI x2), some (vI x3), none, none] [] (sh, I, L) (0, 0) := by
  refine hK.1 13 [some (vR 31), some (vI x1), some (vI x2), some (vI x3), none, none] [] (sh, I, L) (0, 0) ?_
  refine hK.1 14 [some (vR 31), some (vI x1), some (vI x2), some (vI x3), none, none] [vI x1] (sh, I, L) (0, 0) ?_
  refine hK.1 15 [some (vR 31), some (vI x1), some (vI x2), some (vI x3), none, none] [vI 1, vI x1] (sh, I, L) (0, 0) ?_
  exact And.intro (And.intro n15a ⟨by decide, by decide⟩) (And.intro (fun h => hK.2 [false, true, true, false, false, false] _ _ _ _ _ (kt h)) (fun h => hK.2 [true, true, true, true, false, false] _ _ _ _ _ (kf h)))
set_option maxRecDepth 4000 in
theorem B_X7_thread_18 {Q : oQ} {K : oK} (hK : oCl tb_X7_thread Q K) {sh : oS} (hs : Sh sh) {I : Nat → Nat → Int} {L : Nat → Nat → Int64} {x1 : Int} {x2 : Int} {x3 : Int} (b24 : 0 ≤ x1 ∧ x1 < 324) (k : K 39 [some (vR 31), some (vI x1), some (vI x2), some (vI x3), some (vI (I 39 (x1.toNat))), some (vI (I 31 10))] [] (sh, (u2 I 40 (x1.toNat) 1), L) (0, 0)) : K 18 [some (vR 31), some (vI x1), some (vI x2), some (vI x3), none, none] [] (sh, I, L) (0, 0) := by
  refine hK.1 18 [some (vR 31), some (vI x1), some (vI x2), some (vI x3), none, none] [] (sh, I, L) (0, 0) ?_
  refine hK.1 19 [some (vR 31), some (vI x1), some (vI x2), some (vI x3), none, none] [vR 31] (sh, I, L) (0, 0) ?_
  refine And.intro (mem1 (sk_31 hs)) (Exists.intro 40 (And.intro (sr_31_8 hs) ?_))
  refine hK.1 22 [some (vR 31), some (vI x1), some (vI x2), some (vI x3), none, none] [vR 40] (sh, I, L) (0, 0) ?_
  refine hK.1 23 [some (vR 31), some (vI x1), some (vI x2), some (vI x3), none, none] [vI x1, vR 40] (sh, I, L) (0, 0) ?_
  refine hK.1 24 [some (vR 31), some (vI x1), some (vI x2), some (vI x3), none, none] [vI 1, vI x1, vR 40] (sh, I, L) (0, 0) ?_
  refine And.intro (And.intro (sk_40 hs) (And.intro ((ixL (sl_40 hs) b24)).1 (And.intro ((ixL (sl_40 hs) b24)).2 (by decide)))) ?_
  refine hK.1 25 [some (vR 31), some (vI x1), some (vI x2), some (vI x3), none, none] [] (sh, (u2 I 40 (x1.toNat) 1), L) (0, 0) ?_
  refine hK.1 26 [some (vR 31), some (vI x1), some (vI x2), some (vI x3), none, none] [vR 31] (sh, (u2 I 40 (x1.toNat) 1), L) (0, 0) ?_
  refine And.intro (mem1 (sk_31 hs)) (Exists.intro 39 (And.intro (sr_31_7 hs) ?_))
  refine hK.1 29 [some (vR 31), some (vI x1), some (vI x2), some (vI x3), none, none] [vR 39] (sh, (u2 I 40 (x1.toNat) 1), L) (0, 0) ?_
  refine hK.1 30 [some (vR 31), some (vI x1), some (vI x2), some (vI x3), none, none] [vI x1, vR 39] (sh, (u2 I 40 (x1.toNat) 1), L) (0, 0) ?_
  refine And.intro (And.intro (sk_39 hs) (ixL (sl_39 hs) b24)) ?_
  refine hK.1 31 [some (vR 31), some (vI x1), some (vI x2), some (vI x3), none, none] [vI (I 39 (x1.toNat))] (sh, (u2 I 40 (x1.toNat) 1), L) (0, 0) ?_
  refine hK.1 33 [some (vR 31), some (vI x1), some (vI x2), some (vI x3), some (vI (I 39 (x1.toNat))), none] [] (sh, (u2 I 40 (x1.toNat) 1), L) (0, 0) ?_
  refine hK.1 34 [some (vR 31), some (vI x1), some (vI x2), some (vI x3), some (vI (I 39 (x1.toNat))), none] [vR 31] (sh, (u2 I 40 (x1.toNat) 1), L) (0, 0) ?_
  refine And.intro (mem1 (sk_31 hs)) ?_
  refine hK.1 37 [some (vR 31), some (vI x1), some (vI x2), some (vI x3), some (vI (I 39 (x1.toNat))), none] [vI (I 31 10)] (sh, (u2 I 40 (x1.toNat) 1), L) (0, 0) ?_
  exact k
set_option maxRecDepth 4000 in
theorem B_X7_thread_39 {Q : oQ} {K : oK} (hK : oCl tb_X7_thread Q K) {sh : oS} {I : Nat → Nat → Int} {L : Nat → Nat → Int64} {x1 : Int} {x2 : Int} {x3 : Int} {x4 : Int} {x5 : Int} (n41 : inR x5) (kt : x5 ≤ 0 → K 121 [some (vR 31), some (vI x1), some (vI x2), some (vI x3), some (vI x4), none] [] (sh, I, L) (0, 0)) (kf : ¬ (x5 ≤ 0) → K 44 [some (vR 31), some (vI x1), some (vI x2), some (vI x3), some (vI x4), some (vI x5)] [] (sh, I, L) (0, 0)) : K 39 [some (vR 31), some (vI x1), some (vI x2), some (vI x3), some (vI x4), some (vI x5)] [] (sh, I, L) (0, 0) := by
  refine hK.1 39 [some (vR 31), some (vI x1), some (vI x2), some (vI x3), some (vI x4), some (vI x5)] [] (sh, I, L) (0, 0) ?_
  refine hK.1 41 [some (vR 31), some (vI x1), some (vI x2), some (vI x3), some (vI x4), some (vI x5)] [vI x5] (sh, I, L) (0, 0) ?_
  exact And.intro (n41) (And.intro (fun h => hK.2 [true, true, true, true, true, false] _ _ _ _ _ (kt h)) (fun h => hK.2 [true, true, true, true, true, true] _ _ _ _ _ (kf h)))
set_option maxRecDepth 4000 in
theorem B_X7_thread_44 {Q : oQ} {K : oK} (hK : oCl tb_X7_thread Q K) {sh : oS} {I : Nat → Nat → Int} {L : Nat → Nat → Int64} {x1 : Int} {x2 : Int} {x3 : Int} {x4 : Int} {x5 : Int} (n46 : inR x4) (kt : x4 < 0 → K 121 [some (vR 31), some (vI x1), some (vI x2), some (vI x3), some (vI x4), none] [] (sh, I, L) (0, 0)) (kf : ¬ (x4 < 0) → K 49 [some (vR 31), some (vI x1), some (vI x2), some (vI x3), some (vI x4), some (vI x5)] [] (sh, I, L) (0, 0)) : K 44 [some (vR 31), some (vI x1), some (vI x2), some (vI x3), some (vI x4), some (vI x5)] [] (sh, I, L) (0, 0) := by
  refine hK.1 44 [some (vR 31), some (vI x1), some (vI x2), some (vI x3), some (vI x4), some (vI x5)] [] (sh, I, L) (0, 0) ?_
  refine hK.1 46 [some (vR 31), some (vI x1), some (vI x2), some (vI x3), some (vI x4), some (vI x5)] [vI x4] (sh, I, L) (0, 0) ?_
  exact And.intro (n46) (And.intro (fun h => hK.2 [true, true, true, true, true, false] _ _ _ _ _ (kt h)) (fun h => hK.2 [true, true, true, true, true, true] _ _ _ _ _ (kf h)))
set_option maxRecDepth 4000 in
theorem B_X7_thread_49 {Q : oQ} {K : oK} (hK : oCl tb_X7_thread Q K) {sh : oS} (hs : Sh sh) {I : Nat → Nat → Int} {L : Nat → Nat → Int64} {x1 : Int} {x2 : Int} {x3 : Int} {x4 : Int} {x5 : Int} (b55 : 0 ≤ x4 ∧ x4 < 2548) (n56 : inR (I 33 (x4.toNat))) (kt : I 33 (x4.toNat) ≤ 0 → K 106 [some (vR 31), some (vI x1), some (vI x2), some (vI x3), some (vI x4), some (vI x5)] [] (sh, I, L) (0, 0)) (kf : ¬ (I 33 (x4.toNat) ≤ 0) → K 59 [some (vR 31), some (vI x1), some (vI x2), some (vI x3), some (vI x4), some (vI x5)] [] (sh, I, L) (0, 0)) : K 49 [some (vR 31), some (vI x1), some (vI x2), some (vI x3), some (vI x4), some (vI x5)] [] (sh, I, L) (0, 0) := by
  refine hK.1 49 [some (vR 31), some (vI x1), some (vI x2), some (vI x3), some (vI x4), some (vI x5)] [] (sh, I, L) (0, 0) ?_
  refine hK.1 50 [some (vR 31), some (vI x1), some (vI x2), some (vI x3), some (vI x4), some (vI x5)] [vR 31] (sh, I, L) (0, 0) ?_
  refine And.intro (mem1 (sk_31 hs)) (Exists.intro 33 (And.intro (sr_31_1 hs) ?_))
  refine hK.1 53 [some (vR 31), some (vI x1), some (vI x2), some (vI x3), some (vI x4), some (vI x5)] [vR 33] (sh, I, L) (0, 0) ?_
  refine hK.1 55 [some (vR 31), some (vI x1), some (vI x2), some (vI x3), some (vI x4), some (vI x5)] [vI x4, vR 33] (sh, I, L) (0, 0) ?_
  refine And.intro (And.intro (sk_33 hs) (ixL (sl_33 hs) b55)) ?_
  refine hK.1 56 [some (vR 31), some (vI x1), some (vI x2), some (vI x3), some (vI x4), some (vI x5)] [vI (I 33 (x4.toNat))] (sh, I, L) (0, 0) ?_
  exact And.intro (n56) (And.intro (fun h => hK.2 [true, true, true, true, true, true] _ _ _ _ _ (kt h)) (fun h => hK.2 [true, true, true, true, true, true] _ _ _ _ _ (kf h)))
set_option maxRecDepth 4000 in
theorem B_X7_thread_59 {Q : oQ} {K : oK} (hK : oCl tb_X7_thread Q K) {sh : oS} (hs : Sh sh) {I : Nat → Nat → Int} {L : Nat → Nat → Int64} {x1 : Int} {x2 : Int} {x3 : Int} {x4 : Int} {x5 : Int} (b69 : 0 ≤ x4 ∧ x4 < 2548) (b70 : 0 ≤ I 32 (x4.toNat) ∧ I 32 (x4.toNat) < 324) (n71 : inR (I 40 ((I 32 (x4.toNat)).toNat))) (kt : ¬ I 40 ((I 32 (x4.toNat)).toNat) = 0 → K 106 [some (vR 31), some (vI x1), some (vI x2), some (vI x3), some (vI x4), some (vI x5)] [] (sh, I, L) (0, 0)) (kf : ¬ (¬ I 40 ((I 32 (x4.toNat)).toNat) = 0) → K 74 [some (vR 31), some (vI x1), some (vI x2), some (vI x3), some (vI x4), some (vI x5)] [] (sh, I, L) (0, 0)) : K 59 [some (vR 31), some (vI x1), some (vI x2), some (vI x3), some (vI x4), some (vI x5)] [] (sh, I, L) (0, 0) := by
  refine hK.1 59 [some (vR 31), some (vI x1), some (vI x2), some (vI x3), some (vI x4), some (vI x5)] [] (sh, I, L) (0, 0) ?_
  refine hK.1 60 [some (vR 31), some (vI x1), some (vI x2), some (vI x3), some (vI x4), some (vI x5)] [vR 31] (sh, I, L) (0, 0) ?_
  refine And.intro (mem1 (sk_31 hs)) (Exists.intro 40 (And.intro (sr_31_8 hs) ?_))
  refine hK.1 63 [some (vR 31), some (vI x1), some (vI x2), some (vI x3), some (vI x4), some (vI x5)] [vR 40] (sh, I, L) (0, 0) ?_
  refine hK.1 64 [some (vR 31), some (vI x1), some (vI x2), some (vI x3), some (vI x4), some (vI x5)] [vR 31, vR 40] (sh, I, L) (0, 0) ?_
  refine And.intro (mem1 (sk_31 hs)) (Exists.intro 32 (And.intro (sr_31_0 hs) ?_))
  refine hK.1 67 [some (vR 31), some (vI x1), some (vI x2), some (vI x3), some (vI x4), some (vI x5)] [vR 32, vR 40] (sh, I, L) (0, 0) ?_
  refine hK.1 69 [some (vR 31), some (vI x1), some (vI x2), some (vI x3), some (vI x4), some (vI x5)] [vI x4, vR 32, vR 40] (sh, I, L) (0, 0) ?_
  refine And.intro (And.intro (sk_32 hs) (ixL (sl_32 hs) b69)) ?_
  refine hK.1 70 [some (vR 31), some (vI x1), some (vI x2), some (vI x3), some (vI x4), some (vI x5)] [vI (I 32 (x4.toNat)), vR 40] (sh, I, L) (0, 0) ?_
  refine And.intro (And.intro (sk_40 hs) (ixL (sl_40 hs) b70)) ?_
  refine hK.1 71 [some (vR 31), some (vI x1), some (vI x2), some (vI x3), some (vI x4), some (vI x5)] [vI (I 40 ((I 32 (x4.toNat)).toNat))] (sh, I, L) (0, 0) ?_
  exact And.intro (n71) (And.intro (fun h => hK.2 [true, true, true, true, true, true] _ _ _ _ _ (kt h)) (fun h => hK.2 [true, true, true, true, true, true] _ _ _ _ _ (kf h)))
set_option maxRecDepth 4000 in
theorem B_X7_thread_74 {Q : oQ} {K : oK} (hK : oCl tb_X7_thread Q K) {sh : oS} (hs : Sh sh) {I : Nat → Nat → Int} {L : Nat → Nat → Int64} {x1 : Int} {x2 : Int} {x3 : Int} {x4 : Int} {x5 : Int} (b79 : 0 ≤ x1 ∧ x1 < 324) (b86 : 0 ≤ x4 ∧ x4 < 2548) (b99 : 0 ≤ I 32 (x4.toNat) ∧ I 32 (x4.toNat) < 324) (n100a : inR ((I 37 (x1.toNat)) + (I 34 (x4.toNat)))) (n100b : inR (I 37 ((I 32 (x4.toNat)).toNat))) (kt : ¬ (I 37 (x1.toNat)) + (I 34 (x4.toNat)) = I 37 ((I 32 (x4.toNat)).toNat) → K 106 [some (vR 31), some (vI x1), some (vI x2), some (vI x3), some (vI x4), some (vI x5)] [] (sh, I, L) (0, 0)) (kf : ¬ (¬ (I 37 (x1.toNat)) + (I 34 (x4.toNat)) = I 37 ((I 32 (x4.toNat)).toNat)) → K 103 [some (vR 31), some (vI x1), some (vI x2), some (vI x3), some (vI x4), none] [] (sh, I, L) (0, 0)) : K 74 [some (vR 31), some (vI x1), some (vI x2), some (vI x3), some (vI x4), some (vI x5)] [] (sh, I, L) (0, 0) := by
  refine hK.1 74 [some (vR 31), some (vI x1), some (vI x2), some (vI x3), some (vI x4), some (vI x5)] [] (sh, I, L) (0, 0) ?_
  refine hK.1 75 [some (vR 31), some (vI x1), some (vI x2), some (vI x3), some (vI x4), some (vI x5)] [vR 31] (sh, I, L) (0, 0) ?_
  refine And.intro (mem1 (sk_31 hs)) (Exists.intro 37 (And.intro (sr_31_5 hs) ?_))
  refine hK.1 78 [some (vR 31), some (vI x1), some (vI x2), some (vI x3), some (vI x4), some (vI x5)] [vR 37] (sh, I, L) (0, 0) ?_
  refine hK.1 79 [some (vR 31), some (vI x1), some (vI x2), some (vI x3), some (vI x4), some (vI x5)] [vI x1, vR 37] (sh, I, L) (0, 0) ?_
  refine And.intro (And.intro (sk_37 hs) (ixL (sl_37 hs) b79)) ?_
  refine hK.1 80 [some (vR 31), some (vI x1), some (vI x2), some (vI x3), some (vI x4), some (vI x5)] [vI (I 37 (x1.toNat))] (sh, I, L) (0, 0) ?_
  refine hK.1 81 [some (vR 31), some (vI x1), some (vI x2), some (vI x3), some (vI x4), some (vI x5)] [vR 31, vI (I 37 (x1.toNat))] (sh, I, L) (0, 0) ?_
  refine And.intro (mem1 (sk_31 hs)) (Exists.intro 34 (And.intro (sr_31_2 hs) ?_))
  refine hK.1 84 [some (vR 31), some (vI x1), some (vI x2), some (vI x3), some (vI x4), some (vI x5)] [vR 34, vI (I 37 (x1.toNat))] (sh, I, L) (0, 0) ?_
  refine hK.1 86 [some (vR 31), some (vI x1), some (vI x2), some (vI x3), some (vI x4), some (vI x5)] [vI x4, vR 34, vI (I 37 (x1.toNat))] (sh, I, L) (0, 0) ?_
  refine And.intro (And.intro (sk_34 hs) (ixL (sl_34 hs) b86)) ?_
  refine hK.1 87 [some (vR 31), some (vI x1), some (vI x2), some (vI x3), some (vI x4), some (vI x5)] [vI (I 34 (x4.toNat)), vI (I 37 (x1.toNat))] (sh, I, L) (0, 0) ?_
  refine hK.1 88 [some (vR 31), some (vI x1), some (vI x2), some (vI x3), some (vI x4), some (vI x5)] [vI ((I 37 (x1.toNat)) + (I 34 (x4.toNat)))] (sh, I, L) (0, 0) ?_
  refine hK.1 89 [some (vR 31), some (vI x1), some (vI x2), some (vI x3), some (vI x4), some (vI x5)] [vR 31, vI ((I 37 (x1.toNat)) + (I 34 (x4.toNat)))] (sh, I, L) (0, 0) ?_
  refine And.intro (mem1 (sk_31 hs)) (Exists.intro 37 (And.intro (sr_31_5 hs) ?_))
  refine hK.1 92 [some (vR 31), some (vI x1), some (vI x2), some (vI x3), some (vI x4), some (vI x5)] [vR 37, vI ((I 37 (x1.toNat)) + (I 34 (x4.toNat)))] (sh, I, L) (0, 0) ?_
  refine hK.1 93 [some (vR 31), some (vI x1), some (vI x2), some (vI x3), some (vI x4), some (vI x5)] [vR 31, vR 37, vI ((I 37 (x1.toNat)) + (I 34 (x4.toNat)))] (sh, I, L) (0, 0) ?_
  refine And.intro (mem1 (sk_31 hs)) (Exists.intro 32 (And.intro (sr_31_0 hs) ?_))
  refine hK.1 96 [some (vR 31), some (vI x1), some (vI x2), some (vI x3), some (vI x4), some (vI x5)] [vR 32, vR 37, vI ((I 37 (x1.toNat)) + (I 34 (x4.toNat)))] (sh, I, L) (0, 0) ?_
  refine hK.1 98 [some (vR 31), some (vI x1), some (vI x2), some (vI x3), some (vI x4), some (vI x5)] [vI x4, vR 32, vR 37, vI ((I 37 (x1.toNat)) + (I 34 (x4.toNat)))] (sh, I, L) (0, 0) ?_
  refine And.intro (And.intro (sk_32 hs) (ixL (sl_32 hs) b86)) ?_
  refine hK.1 99 [some (vR 31), some (vI x1), some (vI x2), some (vI x3), some (vI x4), some (vI x5)] [vI (I 32 (x4.toNat)), vR 37, vI ((I 37 (x1.toNat)) + (I 34 (x4.toNat)))] (sh, I, L) (0, 0) ?_
  refine And.intro (And.intro (sk_37 hs) (ixL (sl_37 hs) b99)) ?_
  refine hK.1 100 [some (vR 31), some (vI x1), some (vI x2), some (vI x3), some (vI x4), some (vI x5)] [vI (I 37 ((I 32 (x4.toNat)).toNat)), vI ((I 37 (x1.toNat)) + (I 34 (x4.toNat)))] (sh, I, L) (0, 0) ?_
  exact And.intro (And.intro n100a n100b) (And.intro (fun h => hK.2 [true, true, true, true, true, true] _ _ _ _ _ (kt h)) (fun h => hK.2 [true, true, true, true, true, false] _ _ _ _ _ (kf h)))
set_option maxRecDepth 4000 in
theorem B_X7_thread_103 {Q : oQ} {K : oK} (hK : oCl tb_X7_thread Q K) {sh : oS} {I : Nat → Nat → Int} {L : Nat → Nat → Int64} {x1 : Int} {x2 : Int} {x3 : Int} {x4 : Int} (k : K 121 [some (vR 31), some (vI x1), some (vI x2), some (vI x3), some (vI x4), none] [] (sh, I, L) (0, 0)) : K 103 [some (vR 31), some (vI x1), some (vI x2), some (vI x3), some (vI x4), none] [] (sh, I, L) (0, 0) := by
  refine hK.1 103 [some (vR 31), some (vI x1), some (vI x2), some (vI x3), some (vI x4), none] [] (sh, I, L) (0, 0) ?_
  exact k
set_option maxRecDepth 4000 in
theorem B_X7_thread_106 {Q : oQ} {K : oK} (hK : oCl tb_X7_thread Q K) {sh : oS} (hs : Sh sh) {I : Nat → Nat → Int} {L : Nat → Nat → Int64} {x1 : Int} {x2 : Int} {x3 : Int} {x4 : Int} {x5 : Int} (b112 : 0 ≤ x4 ∧ x4 < 2548) (k : K 39 [some (vR 31), some (vI x1), some (vI x2), some (vI x3), some (vI (I 35 (x4.toNat))), some (vI (x5 + (-1)))] [] (sh, I, L) (0, 0)) : K 106 [some (vR 31), some (vI x1), some (vI x2), some (vI x3), some (vI x4), some (vI x5)] [] (sh, I, L) (0, 0) := by
  refine hK.1 106 [some (vR 31), some (vI x1), some (vI x2), some (vI x3), some (vI x4), some (vI x5)] [] (sh, I, L) (0, 0) ?_
  refine hK.1 107 [some (vR 31), some (vI x1), some (vI x2), some (vI x3), some (vI x4), some (vI x5)] [vR 31] (sh, I, L) (0, 0) ?_
  refine And.intro (mem1 (sk_31 hs)) (Exists.intro 35 (And.intro (sr_31_3 hs) ?_))
  refine hK.1 110 [some (vR 31), some (vI x1), some (vI x2), some (vI x3), some (vI x4), some (vI x5)] [vR 35] (sh, I, L) (0, 0) ?_
  refine hK.1 112 [some (vR 31), some (vI x1), some (vI x2), some (vI x3), some (vI x4), some (vI x5)] [vI x4, vR 35] (sh, I, L) (0, 0) ?_
  refine And.intro (And.intro (sk_35 hs) (ixL (sl_35 hs) b112)) ?_
  refine hK.1 113 [some (vR 31), some (vI x1), some (vI x2), some (vI x3), some (vI x4), some (vI x5)] [vI (I 35 (x4.toNat))] (sh, I, L) (0, 0) ?_
  refine hK.1 115 [some (vR 31), some (vI x1), some (vI x2), some (vI x3), some (vI (I 35 (x4.toNat))), some (vI x5)] [] (sh, I, L) (0, 0) ?_
  refine hK.1 118 [some (vR 31), some (vI x1), some (vI x2), some (vI x3), some (vI (I 35 (x4.toNat))), some (vI (x5 + (-1)))] [] (sh, I, L) (0, 0) ?_
  exact k
set_option maxRecDepth 4000 in
theorem B_X7_thread_121 {Q : oQ} {K : oK} (hK : oCl tb_X7_thread Q K) {sh : oS} (hs : Sh sh) {I : Nat → Nat → Int} {L : Nat → Nat → Int64} {x1 : Int} {x2 : Int} {x3 : Int} {x4 : Int} (b128 : 0 ≤ x1 ∧ x1 < 324) (n131 : inR x4) (kt : x4 < 0 → K 156 [some (vR 31), none, some (vI x2), some (vI x3), none, none] [] (sh, (u2 I 39 (x1.toNat) x4), L) (0, 0)) (kf : ¬ (x4 < 0) → K 134 [some (vR 31), none, some (vI x2), some (vI x3), some (vI x4), none] [] (sh, (u2 I 39 (x1.toNat) x4), L) (0, 0)) : K 121 [some (vR 31), some (vI x1), some (vI x2), some (vI x3), some (vI x4), none] [] (sh, I, L) (0, 0) := by
  refine hK.1 121 [some (vR 31), some (vI x1), some (vI x2), some (vI x3), some (vI x4), none] [] (sh, I, L) (0, 0) ?_
  refine hK.1 122 [some (vR 31), some (vI x1), some (vI x2), some (vI x3), some (vI x4), none] [vR 31] (sh, I, L) (0, 0) ?_
  refine And.intro (mem1 (sk_31 hs)) (Exists.intro 39 (And.intro (sr_31_7 hs) ?_))
  refine hK.1 125 [some (vR 31), some (vI x1), some (vI x2), some (vI x3), some (vI x4), none] [vR 39] (sh, I, L) (0, 0) ?_
  refine hK.1 126 [some (vR 31), some (vI x1), some (vI x2), some (vI x3), some (vI x4), none] [vI x1, vR 39] (sh, I, L) (0, 0) ?_
  refine hK.1 128 [some (vR 31), some (vI x1), some (vI x2), some (vI x3), some (vI x4), none] [vI x4, vI x1, vR 39] (sh, I, L) (0, 0) ?_
  refine And.intro (And.intro (sk_39 hs) (ixL (sl_39 hs) b128)) ?_
  refine hK.1 129 [some (vR 31), some (vI x1), some (vI x2), some (vI x3), some (vI x4), none] [] (sh, (u2 I 39 (x1.toNat) x4), L) (0, 0) ?_
  refine hK.1 131 [some (vR 31), some (vI x1), some (vI x2), some (vI x3), some (vI x4), none] [vI x4] (sh, (u2 I 39 (x1.toNat) x4), L) (0, 0) ?_
  exact And.intro (n131) (And.intro (fun h => hK.2 [true, false, true, true, false, false] _ _ _ _ _ (kt h)) (fun h => hK.2 [true, false, true, true, true, false] _ _ _ _ _ (kf h)))
set_option maxRecDepth 4000 in
theorem B_X7_thread_134 {Q : oQ} {K : oK} (hK : oCl tb_X7_thread Q K) {sh : oS} (hs : Sh sh) {I : Nat → Nat → Int} {L : Nat → Nat → Int64} {x2 : Int} {x3 : Int} {x4 : Int} (b141 : 0 ≤ x2 ∧ x2 < 324) (b151 : 0 ≤ x4 ∧ x4 < 2548) (k : K 182 [some (vR 31), some (vI (I 32 (x4.toNat))), some (vI (x2 + 1)), some (vI x3), none, none] [] (sh, (u2 I 38 (x2.toNat) x4), L) (0, 0)) : K 134 [some (vR 31), none, some (vI x2), some (vI x3), some (vI x4), none] [] (sh, I, L) (0, 0) := by
  refine hK.1 134 [some (vR 31), none, some (vI x2), some (vI x3), some (vI x4), none] [] (sh, I, L) (0, 0) ?_
  refine hK.1 135 [some (vR 31), none, some (vI x2), some (vI x3), some (vI x4), none] [vR 31] (sh, I, L) (0, 0) ?_
  refine And.intro (mem1 (sk_31 hs)) (Exists.intro 38 (And.intro (sr_31_6 hs) ?_))
  refine hK.1 138 [some (vR 31), none, some (vI x2), some (vI x3), some (vI x4), none] [vR 38] (sh, I, L) (0, 0) ?_
  refine hK.1 139 [some (vR 31), none, some (vI x2), some (vI x3), some (vI x4), none] [vI x2, vR 38] (sh, I, L) (0, 0) ?_
  refine hK.1 141 [some (vR 31), none, some (vI x2), some (vI x3), some (vI x4), none] [vI x4, vI x2, vR 38] (sh, I, L) (0, 0) ?_
  refine And.intro (And.intro (sk_38 hs) (ixL (sl_38 hs) b141)) ?_
  refine hK.1 142 [some (vR 31), none, some (vI x2), some (vI x3), some (vI x4), none] [] (sh, (u2 I 38 (x2.toNat) x4), L) (0, 0) ?_
  refine hK.1 145 [some (vR 31), none, some (vI (x2 + 1)), some (vI x3), some (vI x4), none] [] (sh, (u2 I 38 (x2.toNat) x4), L) (0, 0) ?_
  refine hK.1 146 [some (vR 31), none, some (vI (x2 + 1)), some (vI x3), some (vI x4), none] [vR 31] (sh, (u2 I 38 (x2.toNat) x4), L) (0, 0) ?_
  refine And.intro (mem1 (sk_31 hs)) (Exists.intro 32 (And.intro (sr_31_0 hs) ?_))
  refine hK.1 149 [some (vR 31), none, some (vI (x2 + 1)), some (vI x3), some (vI x4), none] [vR 32] (sh, (u2 I 38 (x2.toNat) x4), L) (0, 0) ?_
  refine hK.1 151 [some (vR 31), none, some (vI (x2 + 1)), some (vI x3), some (vI x4), none] [vI x4, vR 32] (sh, (u2 I 38 (x2.toNat) x4), L) (0, 0) ?_
  refine And.intro (And.intro (sk_32 hs) (ixL (sl_32 hs) b151)) ?_
  refine hK.1 152 [some (vR 31), none, some (vI (x2 + 1)), some (vI x3), some (vI x4), none] [vI (I 32 (x4.toNat))] (sh, (u2 I 38 (x2.toNat) x4), L) (0, 0) ?_
  refine hK.1 153 [some (vR 31), some (vI (I 32 (x4.toNat))), some (vI (x2 + 1)), some (vI x3), some (vI x4), none] [] (sh, (u2 I 38 (x2.toNat) x4), L) (0, 0) ?_
  refine hK.2 [true, true, true, true, false, false] _ _ _ _ _ ?_
  exact k
set_option maxRecDepth 4000 in
theorem B_X7_thread_156 {Q : oQ} {K : oK} (hK : oCl tb_X7_thread Q K) {sh : oS} {I : Nat → Nat → Int} {L : Nat → Nat → Int64} {x2 : Int} {x3 : Int} (n157 : inR x2) (kt : x2 ≤ 0 → K 180 [none, none, none, none, none, none] [] (sh, I, L) (0, 0)) (kf : ¬ (x2 ≤ 0) → K 160 [some (vR 31), none, some (vI x2), some (vI x3), none, none] [] (sh, I, L) (0, 0)) : K 156 [some (vR 31), none, some (vI x2), some (vI x3), none, none] [] (sh, I, L) (0, 0) := by
  refine hK.1 156 [some (vR 31), none, some (vI x2), some (vI x3), none, none] [] (sh, I, L) (0, 0) ?_
  refine hK.1 157 [some (vR 31), none, some (vI x2), some (vI x3), none, none] [vI x2] (sh, I, L) (0, 0) ?_
  exact And.intro (n157) (And.intro (fun h => hK.2 [false, false, false, false, false, false] _ _ _ _ _ (kt h)) (fun h => hK.2 [true, false, true, true, false, false] _ _ _ _ _ (kf h)))
set_option maxRecDepth 4000 in
theorem B_X7_thread_160 {Q : oQ} {K : oK} (hK : oCl tb_X7_thread Q K) {sh : oS} (hs : Sh sh) {I : Nat → Nat → Int} {L : Nat → Nat → Int64} {x2 : Int} {x3 : Int} (b172 : 0 ≤ x2 + (-1) ∧ x2 + (-1) < 324) (b175 : 0 ≤ fXor (I 38 ((x2 + (-1)).toNat)) 1 ∧ fXor (I 38 ((x2 + (-1)).toNat)) 1 < 2548) (k : K 182 [some (vR 31), some (vI (I 32 ((fXor (I 38 ((x2 + (-1)).toNat)) 1).toNat))), some (vI (x2 + (-1))), some (vI x3), none, none] [] (sh, I, L) (0, 0)) : K 160 [some (vR 31), none, some (vI x2), some (vI x3), none, none] [] (sh, I, L) (0, 0) := by
  refine hK.1 160 [some (vR 31), none, some (vI x2), some (vI x3), none, none] [] (sh, I, L) (0, 0) ?_
  refine hK.1 163 [some (vR 31), none, some (vI (x2 + (-1))), some (vI x3), none, none] [] (sh, I, L) (0, 0) ?_
  refine hK.1 164 [some (vR 31), none, some (vI (x2 + (-1))), some (vI x3), none, none] [vR 31] (sh, I, L) (0, 0) ?_
  refine And.intro (mem1 (sk_31 hs)) (Exists.intro 32 (And.intro (sr_31_0 hs) ?_))
  refine hK.1 167 [some (vR 31), none, some (vI (x2 + (-1))), some (vI x3), none, none] [vR 32] (sh, I, L) (0, 0) ?_
  refine hK.1 168 [some (vR 31), none, some (vI (x2 + (-1))), some (vI x3), none, none] [vR 31, vR 32] (sh, I, L) (0, 0) ?_
  refine And.intro (mem1 (sk_31 hs)) (Exists.intro 38 (And.intro (sr_31_6 hs) ?_))
  refine hK.1 171 [some (vR 31), none, some (vI (x2 + (-1))), some (vI x3), none, none] [vR 38, vR 32] (sh, I, L) (0, 0) ?_
  refine hK.1 172 [some (vR 31), none, some (vI (x2 + (-1))), some (vI x3), none, none] [vI (x2 + (-1)), vR 38, vR 32] (sh, I, L) (0, 0) ?_
  refine And.intro (And.intro (sk_38 hs) (ixL (sl_38 hs) b172)) ?_
  refine hK.1 173 [some (vR 31), none, some (vI (x2 + (-1))), some (vI x3), none, none] [vI (I 38 ((x2 + (-1)).toNat)), vR 32] (sh, I, L) (0, 0) ?_
  refine hK.1 174 [some (vR 31), none, some (vI (x2 + (-1))), some (vI x3), none, none] [vI 1, vI (I 38 ((x2 + (-1)).toNat)), vR 32] (sh, I, L) (0, 0) ?_
  refine hK.1 175 [some (vR 31), none, some (vI (x2 + (-1))), some (vI x3), none, none] [vI (fXor (I 38 ((x2 + (-1)).toNat)) 1), vR 32] (sh, I, L) (0, 0) ?_
  refine And.intro (And.intro (sk_32 hs) (ixL (sl_32 hs) b175)) ?_
  refine hK.1 176 [some (vR 31), none, some (vI (x2 + (-1))), some (vI x3), none, none] [vI (I 32 ((fXor (I 38 ((x2 + (-1)).toNat)) 1).toNat))] (sh, I, L) (0, 0) ?_
  refine hK.1 177 [some (vR 31), some (vI (I 32 ((fXor (I 38 ((x2 + (-1)).toNat)) 1).toNat))), some (vI (x2 + (-1))), some (vI x3), none, none] [] (sh, I, L) (0, 0) ?_
  exact k
set_option maxRecDepth 4000 in
theorem B_X7_thread_180 {Q : oQ} {K : oK} (hK : oCl tb_X7_thread Q K) {sh : oS} {I : Nat → Nat → Int} {L : Nat → Nat → Int64}  (k : Q (some (vI 0)) (sh, I, L)) : K 180 [none, none, none, none, none, none] [] (sh, I, L) (0, 0) := by
  refine hK.1 180 [none, none, none, none, none, none] [] (sh, I, L) (0, 0) ?_
  refine hK.1 181 [none, none, none, none, none, none] [vI 0] (sh, I, L) (0, 0) ?_
  exact And.intro ⟨by decide, by decide⟩ k
set_option maxRecDepth 4000 in
theorem B_X7_thread_182 {Q : oQ} {K : oK} (hK : oCl tb_X7_thread Q K) {sh : oS} {I : Nat → Nat → Int} {L : Nat → Nat → Int64} {x1 : Int} {x2 : Int} {x3 : Int} (k : K 6 [some (vR 31), some (vI x1), some (vI x2), some (vI (x3 + 1)), none, none] [] (sh, I, L) (0, 0)) : K 182 [some (vR 31), some (vI x1), some (vI x2), some (vI x3), none, none] [] (sh, I, L) (0, 0) := by
  refine hK.1 182 [some (vR 31), some (vI x1), some (vI x2), some (vI x3), none, none] [] (sh, I, L) (0, 0) ?_
  refine hK.1 185 [some (vR 31), some (vI x1), some (vI x2), some (vI (x3 + 1)), none, none] [] (sh, I, L) (0, 0) ?_
  exact k
set_option maxRecDepth 4000 in
theorem B_X7_thread_188 {Q : oQ} {K : oK} (hK : oCl tb_X7_thread Q K) {sh : oS} {I : Nat → Nat → Int} {L : Nat → Nat → Int64} {x1 : Int} {x2 : Int} (n190a : inR x1) (kt : ¬ x1 = 1 → K 197 [none, none, none, none, none, none] [] (sh, I, L) (0, 0)) (kf : ¬ (¬ x1 = 1) → K 193 [none, none, some (vI x2), none, none, none] [] (sh, I, L) (0, 0)) : K 188 [none, some (vI x1), some (vI x2), none, none, none] [] (sh, I, L) (0, 0) := by
  refine hK.1 188 [none, some (vI x1), some (vI x2), none, none, none] [] (sh, I, L) (0, 0) ?_
  refine hK.1 189 [none, some (vI x1), some (vI x2), none, none, none] [vI x1] (sh, I, L) (0, 0) ?_
  refine hK.1 190 [none, some (vI x1), some (vI x2), none, none, none] [vI 1, vI x1] (sh, I, L) (0, 0) ?_
  exact And.intro (And.intro n190a ⟨by decide, by decide⟩) (And.intro (fun h => hK.2 [false, false, false, false, false, false] _ _ _ _ _ (kt h)) (fun h => hK.2 [false, false, true, false, false, false] _ _ _ _ _ (kf h)))
set_option maxRecDepth 4000 in
theorem B_X7_thread_193 {Q : oQ} {K : oK} (hK : oCl tb_X7_thread Q K) {sh : oS} {I : Nat → Nat → Int} {L : Nat → Nat → Int64} {x2 : Int} (k : K 198 [none, none, none, none, none, none] [vI x2] (sh, I, L) (0, 0)) : K 193 [none, none, some (vI x2), none, none, none] [] (sh, I, L) (0, 0) := by
  refine hK.1 193 [none, none, some (vI x2), none, none, none] [] (sh, I, L) (0, 0) ?_
  refine hK.1 194 [none, none, some (vI x2), none, none, none] [vI x2] (sh, I, L) (0, 0) ?_
  refine hK.2 [false, false, false, false, false, false] _ _ _ _ _ ?_
  exact k
set_option maxRecDepth 4000 in
theorem B_X7_thread_197 {Q : oQ} {K : oK} (hK : oCl tb_X7_thread Q K) {sh : oS} {I : Nat → Nat → Int} {L : Nat → Nat → Int64}  (k : K 198 [none, none, none, none, none, none] [vI 0] (sh, I, L) (0, 0)) : K 197 [none, none, none, none, none, none] [] (sh, I, L) (0, 0) := by
  refine hK.1 197 [none, none, none, none, none, none] [] (sh, I, L) (0, 0) ?_
  exact k
set_option maxRecDepth 4000 in
theorem B_X7_thread_198 {Q : oQ} {K : oK} (hK : oCl tb_X7_thread Q K) {sh : oS} {I : Nat → Nat → Int} {L : Nat → Nat → Int64} {s0 : Int} (k : Q (some (vI s0)) (sh, I, L)) : K 198 [none, none, none, none, none, none] [vI s0] (sh, I, L) (0, 0) := by
  refine hK.1 198 [none, none, none, none, none, none] [vI s0] (sh, I, L) (0, 0) ?_
  exact And.intro ⟨by decide, by decide⟩ k
set_option maxRecDepth 4000 in
theorem B_X7_push_0 {Q : oQ} {K : oK} (hK : oCl tb_X7_push Q K) {sh : oS} {I : Nat → Nat → Int} {L : Nat → Nat → Int64} {x1 : Int} (k : K 5 [some (vR 31), some (vI x1), some (vI 268435456), some (vI 0), none] [] (sh, I, L) (0, 0)) : K 0 [some (vR 31), some (vI x1), none, none, none] [] (sh, I, L) (0, 0) := by
  refine hK.1 0 [some (vR 31), some (vI x1), none, none, none] [] (sh, I, L) (0, 0) ?_
  refine hK.1 2 [some (vR 31), some (vI x1), none, none, none] [vI 268435456] (sh, I, L) (0, 0) ?_
  refine hK.1 3 [some (vR 31), some (vI x1), some (vI 268435456), none, none] [] (sh, I, L) (0, 0) ?_
  refine hK.1 4 [some (vR 31), some (vI x1), some (vI 268435456), none, none] [vI 0] (sh, I, L) (0, 0) ?_
  exact k
set_option maxRecDepth 4000 in
theorem B_X7_push_5 {Q : oQ} {K : oK} (hK : oCl tb_X7_push Q K) {sh : oS} {I : Nat → Nat → Int} {L : Nat → Nat → Int64} {x1 : Int} {x2 : Int} {x3 : Int} (n7a : inR x3) (n7b : inR x1) (kt : x1 ≤ x3 → K 42 [some (vR 31), some (vI x1), some (vI x2), none, none] [] (sh, I, L) (0, 0)) (kf : ¬ (x1 ≤ x3) → K 10 [some (vR 31), some (vI x1), some (vI x2), some (vI x3), none] [] (sh, I, L) (0, 0)) : K 5 [some (vR 31), some (vI x1), some (vI x2), some (vI x3), none] [] (sh, I, L) (0, 0) := by
  refine hK.1 5 [some (vR 31), some (vI x1), some (vI x2), some (vI x3), none] [] (sh, I, L) (0, 0) ?_
  refine hK.1 6 [some (vR 31), some (vI x1), some (vI x2), some (vI x3), none] [vI x3] (sh, I, L) (0, 0) ?_
  refine hK.1 7 [some (vR 31), some (vI x1), some (vI x2), some (vI x3), none] [vI x1, vI x3] (sh, I, L) (0, 0) ?_
  exact And.intro (And.intro n7a n7b) (And.intro (fun h => hK.2 [true, true, true, false, false] _ _ _ _ _ (kt h)) (fun h => hK.2 [true, true, true, true, false] _ _ _ _ _ (kf h)))
set_option maxRecDepth 4000 in
theorem B_X7_push_10 {Q : oQ} {K : oK} (hK : oCl tb_X7_push Q K) {sh : oS} (hs : Sh sh) {I : Nat → Nat → Int} {L : Nat → Nat → Int64} {x1 : Int} {x2 : Int} {x3 : Int} (b19 : 0 ≤ x3 ∧ x3 < 324) (b20 : 0 ≤ I 38 (x3.toNat) ∧ I 38 (x3.toNat) < 2548) (n26a : inR (I 33 ((I 38 (x3.toNat)).toNat))) (n26b : inR x2) (kt : x2 ≤ I 33 ((I 38 (x3.toNat)).toNat) → K 34 [some (vR 31), some (vI x1), some (vI x2), some (vI x3), none] [] (sh, I, L) (0, 0)) (kf : ¬ (x2 ≤ I 33 ((I 38 (x3.toNat)).toNat)) → K 29 [some (vR 31), some (vI x1), none, some (vI x3), some (vI (I 33 ((I 38 (x3.toNat)).toNat)))] [] (sh, I, L) (0, 0)) : K 10 [some (vR 31), some (vI x1), some (vI x2), some (vI x3), none] [] (sh, I, L) (0, 0) := by
  refine hK.1 10 [some (vR 31), some (vI x1), some (vI x2), some (vI x3), none] [] (sh, I, L) (0, 0) ?_
  refine hK.1 11 [some (vR 31), some (vI x1), some (vI x2), some (vI x3), none] [vR 31] (sh, I, L) (0, 0) ?_
  refine And.intro (mem1 (sk_31 hs)) (Exists.intro 33 (And.intro (sr_31_1 hs) ?_))
  refine hK.1 14 [some (vR 31), some (vI x1), some (vI x2), some (vI x3), none] [vR 33] (sh, I, L) (0, 0) ?_
  refine hK.1 15 [some (vR 31), some (vI x1), some (vI x2), some (vI x3), none] [vR 31, vR 33] (sh, I, L) (0, 0) ?_
  refine And.intro (mem1 (sk_31 hs)) (Exists.intro 38 (And.intro (sr_31_6 hs) ?_))
  refine hK.1 18 [some (vR 31), some (vI x1), some (vI x2), some (vI x3), none] [vR 38, vR 33] (sh, I, L) (0, 0) ?_
  refine hK.1 19 [some (vR 31), some (vI x1), some (vI x2), some (vI x3), none] [vI x3, vR 38, vR 33] (sh, I, L) (0, 0) ?_
  refine And.intro (And.intro (sk_38 hs) (ixL (sl_38 hs) b19)) ?_
  refine hK.1 20 [some (vR 31), some (vI x1), some (vI x2), some (vI x3), none] [vI (I 38 (x3.toNat)), vR 33] (sh, I, L) (0, 0) ?_
  refine And.intro (And.intro (sk_33 hs) (ixL (sl_33 hs) b20)) ?_
  refine hK.1 21 [some (vR 31), some (vI x1), some (vI x2), some (vI x3), none] [vI (I 33 ((I 38 (x3.toNat)).toNat))] (sh, I, L) (0, 0) ?_
  refine hK.1 23 [some (vR 31), some (vI x1), some (vI x2), some (vI x3), some (vI (I 33 ((I 38 (x3.toNat)).toNat)))] [] (sh, I, L) (0, 0) ?_
  refine hK.1 25 [some (vR 31), some (vI x1), some (vI x2), some (vI x3), some (vI (I 33 ((I 38 (x3.toNat)).toNat)))] [vI (I 33 ((I 38 (x3.toNat)).toNat))] (sh, I, L) (0, 0) ?_
  refine hK.1 26 [some (vR 31), some (vI x1), some (vI x2), some (vI x3), some (vI (I 33 ((I 38 (x3.toNat)).toNat)))] [vI x2, vI (I 33 ((I 38 (x3.toNat)).toNat))] (sh, I, L) (0, 0) ?_
  exact And.intro (And.intro n26a n26b) (And.intro (fun h => hK.2 [true, true, true, true, false] _ _ _ _ _ (kt h)) (fun h => hK.2 [true, true, false, true, true] _ _ _ _ _ (kf h)))
set_option maxRecDepth 4000 in
theorem B_X7_push_29 {Q : oQ} {K : oK} (hK : oCl tb_X7_push Q K) {sh : oS} {I : Nat → Nat → Int} {L : Nat → Nat → Int64} {x1 : Int} {x3 : Int} {x4 : Int} (k : K 35 [some (vR 31), some (vI x1), none, some (vI x3), none] [vI x4] (sh, I, L) (0, 0)) : K 29 [some (vR 31), some (vI x1), none, some (vI x3), some (vI x4)] [] (sh, I, L) (0, 0) := by
  refine hK.1 29 [some (vR 31), some (vI x1), none, some (vI x3), some (vI x4)] [] (sh, I, L) (0, 0) ?_
  refine hK.1 31 [some (vR 31), some (vI x1), none, some (vI x3), some (vI x4)] [vI x4] (sh, I, L) (0, 0) ?_
  refine hK.2 [true, true, false, true, false] _ _ _ _ _ ?_
  exact k
set_option maxRecDepth 4000 in
theorem B_X7_push_34 {Q : oQ} {K : oK} (hK : oCl tb_X7_push Q K) {sh : oS} {I : Nat → Nat → Int} {L : Nat → Nat → Int64} {x1 : Int} {x2 : Int} {x3 : Int} (k : K 35 [some (vR 31), some (vI x1), none, some (vI x3), none] [vI x2] (sh, I, L) (0, 0)) : K 34 [some (vR 31), some (vI x1), some (vI x2), some (vI x3), none] [] (sh, I, L) (0, 0) := by
  refine hK.1 34 [some (vR 31), some (vI x1), some (vI x2), some (vI x3), none] [] (sh, I, L) (0, 0) ?_
  refine hK.2 [true, true, false, true, false] _ _ _ _ _ ?_
  exact k
set_option maxRecDepth 4000 in
theorem B_X7_push_35 {Q : oQ} {K : oK} (hK : oCl tb_X7_push Q K) {sh : oS} {I : Nat → Nat → Int} {L : Nat → Nat → Int64} {x1 : Int} {x3 : Int} {s0 : Int} (k : K 5 [some (vR 31), some (vI x1), some (vI s0), some (vI (x3 + 1)), none] [] (sh, I, L) (0, 0)) : K 35 [some (vR 31), some (vI x1), none, some (vI x3), none] [vI s0] (sh, I, L) (0, 0) := by
  refine hK.1 35 [some (vR 31), some (vI x1), none, some (vI x3), none] [vI s0] (sh, I, L) (0, 0) ?_
  refine hK.1 36 [some (vR 31), some (vI x1), some (vI s0), some (vI x3), none] [] (sh, I, L) (0, 0) ?_
  refine hK.1 39 [some (vR 31), some (vI x1), some (vI s0), some (vI (x3 + 1)), none] [] (sh, I, L) (0, 0) ?_
  exact k
set_option maxRecDepth 4000 in
theorem B_X7_push_42 {Q : oQ} {K : oK} (hK : oCl tb_X7_push Q K) {sh : oS} {I : Nat → Nat → Int} {L : Nat → Nat → Int64} {x1 : Int} {x2 : Int} (k : K 44 [some (vR 31), some (vI x1), some (vI x2), some (vI 0), none] [] (sh, I, L) (0, 0)) : K 42 [some (vR 31), some (vI x1), some (vI x2), none, none] [] (sh, I, L) (0, 0) := by
  refine hK.1 42 [some (vR 31), some (vI x1), some (vI x2), none, none] [] (sh, I, L) (0, 0) ?_
  refine hK.1 43 [some (vR 31), some (vI x1), some (vI x2), none, none] [vI 0] (sh, I, L) (0, 0) ?_
  exact k
set_option maxRecDepth 4000 in
theorem B_X7_push_44 {Q : oQ} {K : oK} (hK : oCl tb_X7_push Q K) {sh : oS} {I : Nat → Nat → Int} {L : Nat → Nat → Int64} {x1 : Int} {x2 : Int} {x3 : Int} (n46a : inR x3) (n46b : inR x1) (kt : x1 ≤ x3 → K 120 [some (vR 31), none, some (vI x2), none, none] [] (sh, I, L) (0, 0)) (kf : ¬ (x1 ≤ x3) → K 49 [some (vR 31), some (vI x1), some (vI x2), some (vI x3), none] [] (sh, I, L) (0, 0)) : K 44 [some (vR 31), some (vI x1), some (vI x2), some (vI x3), none] [] (sh, I, L) (0, 0) := by
  refine hK.1 44 [some (vR 31), some (vI x1), some (vI x2), some (vI x3), none] [] (sh, I, L) (0, 0) ?_
  refine hK.1 45 [some (vR 31), some (vI x1), some (vI x2), some (vI x3), none] [vI x3] (sh, I, L) (0, 0) ?_
  refine hK.1 46 [some (vR 31), some (vI x1), some (vI x2), some (vI x3), none] [vI x1, vI x3] (sh, I, L) (0, 0) ?_
  exact And.intro (And.intro n46a n46b) (And.intro (fun h => hK.2 [true, false, true, false, false] _ _ _ _ _ (kt h)) (fun h => hK.2 [true, true, true, true, false] _ _ _ _ _ (kf h)))
set_option maxRecDepth 4000 in
theorem B_X7_push_49 {Q : oQ} {K : oK} (hK : oCl tb_X7_push Q K) {sh : oS} (hs : Sh sh) {I : Nat → Nat → Int} {L : Nat → Nat → Int64} {x1 : Int} {x2 : Int} {x3 : Int} (b54 : 0 ≤ x3 ∧ x3 < 324) (b64 : 0 ≤ I 38 (x3.toNat) ∧ I 38 (x3.toNat) < 2548) (b77 : 0 ≤ fXor (I 38 (x3.toNat)) 1 ∧ fXor (I 38 (x3.toNat)) 1 < 2548) (b113 : 0 ≤ I 32 ((fXor (I 38 (x3.toNat)) 1).toNat) ∧ I 32 ((fXor (I 38 (x3.toNat)) 1).toNat) < 324) (k : K 44 [some (vR 31), some (vI x1), some (vI x2), some (vI (x3 + 1)), none] [] (sh, (u2 (u2 (u2 (u2 I 33 ((I 38 (x3.toNat)).toNat) ((I 33 ((I 38 (x3.toNat)).toNat)) - x2)) 33 ((fXor (I 38 (x3.toNat)) 1).toNat) (((u2 I 33 ((I 38 (x3.toNat)).toNat) ((I 33 ((I 38 (x3.toNat)).toNat)) - x2)) 33 ((fXor (I 38 (x3.toNat)) 1).toNat)) + x2)) 31 12 ((I 31 12) + (x2 * (I 34 ((I 38 (x3.toNat)).toNat))))) 40 ((I 32 ((fXor (I 38 (x3.toNat)) 1).toNat)).toNat) 0), L) (0, 0)) : K 49 [some (vR 31), some (vI x1), some (vI x2), some (vI x3), none] [] (sh, I, L) (0, 0) := by
  refine hK.1 49 [some (vR 31), some (vI x1), some (vI x2), some (vI x3), none] [] (sh, I, L) (0, 0) ?_
  refine hK.1 50 [some (vR 31), some (vI x1), some (vI x2), some (vI x3), none] [vR 31] (sh, I, L) (0, 0) ?_
  refine And.intro (mem1 (sk_31 hs)) (Exists.intro 38 (And.intro (sr_31_6 hs) ?_))
  refine hK.1 53 [some (vR 31), some (vI x1), some (vI x2), some (vI x3), none] [vR 38] (sh, I, L) (0, 0) ?_
  refine hK.1 54 [some (vR 31), some (vI x1), some (vI x2), some (vI x3), none] [vI x3, vR 38] (sh, I, L) (0, 0) ?_
  refine And.intro (And.intro (sk_38 hs) (ixL (sl_38 hs) b54)) ?_
  refine hK.1 55 [some (vR 31), some (vI x1), some (vI x2), some (vI x3), none] [vI (I 38 (x3.toNat))] (sh, I, L) (0, 0) ?_
  refine hK.1 57 [some (vR 31), some (vI x1), some (vI x2), some (vI x3), some (vI (I 38 (x3.toNat)))] [] (sh, I, L) (0, 0) ?_
  refine hK.1 58 [some (vR 31), some (vI x1), some (vI x2), some (vI x3), some (vI (I 38 (x3.toNat)))] [vR 31] (sh, I, L) (0, 0) ?_
  refine And.intro (mem1 (sk_31 hs)) (Exists.intro 33 (And.intro (sr_31_1 hs) ?_))
  refine hK.1 61 [some (vR 31), some (vI x1), some (vI x2), some (vI x3), some (vI (I 38 (x3.toNat)))] [vR 33] (sh, I, L) (0, 0) ?_
  refine hK.1 63 [some (vR 31), some (vI x1), some (vI x2), some (vI x3), some (vI (I 38 (x3.toNat)))] [vI (I 38 (x3.toNat)), vR 33] (sh, I, L) (0, 0) ?_
  refine hK.1 64 [some (vR 31), some (vI x1), some (vI x2), some (vI x3), some (vI (I 38 (x3.toNat)))] [vI (I 38 (x3.toNat)), vR 33, vI (I 38 (x3.toNat)), vR 33] (sh, I, L) (0, 0) ?_
  refine And.intro (And.intro (sk_33 hs) (ixL (sl_33 hs) b64)) ?_
  refine hK.1 65 [some (vR 31), some (vI x1), some (vI x2), some (vI x3), some (vI (I 38 (x3.toNat)))] [vI (I 33 ((I 38 (x3.toNat)).toNat)), vI (I 38 (x3.toNat)), vR 33] (sh, I, L) (0, 0) ?_
  refine hK.1 66 [some (vR 31), some (vI x1), some (vI x2), some (vI x3), some (vI (I 38 (x3.toNat)))] [vI x2, vI (I 33 ((I 38 (x3.toNat)).toNat)), vI (I 38 (x3.toNat)), vR 33] (sh, I, L) (0, 0) ?_
  refine hK.1 67 [some (vR 31), some (vI x1), some (vI x2), some (vI x3), some (vI (I 38 (x3.toNat)))] [vI ((I 33 ((I 38 (x3.toNat)).toNat)) - x2), vI (I 38 (x3.toNat)), vR 33] (sh, I, L) (0, 0) ?_
  refine And.intro (And.intro (sk_33 hs) (ixL (sl_33 hs) b64)) ?_
  refine hK.1 68 [some (vR 31), some (vI x1), some (vI x2), some (vI x3), some (vI (I 38 (x3.toNat)))] [] (sh, (u2 I 33 ((I 38 (x3.toNat)).toNat) ((I 33 ((I 38 (x3.toNat)).toNat)) - x2)), L) (0, 0) ?_
  refine hK.1 69 [some (vR 31), some (vI x1), some (vI x2), some (vI x3), some (vI (I 38 (x3.toNat)))] [vR 31] (sh, (u2 I 33 ((I 38 (x3.toNat)).toNat) ((I 33 ((I 38 (x3.toNat)).toNat)) - x2)), L) (0, 0) ?_
  refine And.intro (mem1 (sk_31 hs)) (Exists.intro 33 (And.intro (sr_31_1 hs) ?_))
  refine hK.1 72 [some (vR 31), some (vI x1), some (vI x2), some (vI x3), some (vI (I 38 (x3.toNat)))] [vR 33] (sh, (u2 I 33 ((I 38 (x3.toNat)).toNat) ((I 33 ((I 38 (x3.toNat)).toNat)) - x2)), L) (0, 0) ?_
  refine hK.1 74 [some (vR 31), some (vI x1), some (vI x2), some (vI x3), some (vI (I 38 (x3.toNat)))] [vI (I 38 (x3.toNat)), vR 33] (sh, (u2 I 33 ((I 38 (x3.toNat)).toNat) ((I 33 ((I 38 (x3.toNat)).toNat)) - x2)), L) (0, 0) ?_
  refine hK.1 75 [some (vR 31), some (vI x1), some (vI x2), some (vI x3), some (vI (I 38 (x3.toNat)))] [vI 1, vI (I 38 (x3.toNat)), vR 33] (sh, (u2 I 33 ((I 38 (x3.toNat)).toNat) ((I 33 ((I 38 (x3.toNat)).toNat)) - x2)), L) (0, 0) ?_
  refine hK.1 76 [some (vR 31), some (vI x1), some (vI x2), some (vI x3), some (vI (I 38 (x3.toNat)))] [vI (fXor (I 38 (x3.toNat)) 1), vR 33] (sh, (u2 I 33 ((I 38 (x3.toNat)).toNat) ((I 33 ((I 38 (x3.toNat)).toNat)) - x2)), L) (0, 0) ?_
  refine hK.1 77 [some (vR 31), some (vI x1), some (vI x2), some (vI x3), some (vI (I 38 (x3.toNat)))] [vI (fXor (I 38 (x3.toNat)) 1), vR 33, vI (fXor (I 38 (x3.toNat)) 1), vR 33] (sh, (u2 I 33 ((I 38 (x3.toNat)).toNat) ((I 33 ((I 38 (x3.toNat)).toNat)) - x2)), L) (0, 0) ?_
  refine And.intro (And.intro (sk_33 hs) (ixL (sl_33 hs) b77)) ?_
  refine hK.1 78 [some (vR 31), some (vI x1), some (vI x2), some (vI x3), some (vI (I 38 (x3.toNat)))] [vI ((u2 I 33 ((I 38 (x3.toNat)).toNat) ((I 33 ((I 38 (x3.toNat)).toNat)) - x2)) 33 ((fXor (I 38 (x3.toNat)) 1).toNat)), vI (fXor (I 38 (x3.toNat)) 1), vR 33] (sh, (u2 I 33 ((I 38 (x3.toNat)).toNat) ((I 33 ((I 38 (x3.toNat)).toNat)) - x2)), L) (0, 0) ?_
  refine hK.1 79 [some (vR 31), some (vI x1), some (vI x2), some (vI x3), some (vI (I 38 (x3.toNat)))] [vI x2, vI ((u2 I 33 ((I 38 (x3.toNat)).toNat) ((I 33 ((I 38 (x3.toNat)).toNat)) - x2)) 33 ((fXor (I 38 (x3.toNat)) 1).toNat)), vI (fXor (I 38 (x3.toNat)) 1), vR 33] (sh, (u2 I 33 ((I 38 (x3.toNat)).toNat) ((I 33 ((I 38 (x3.toNat)).toNat)) - x2)), L) (0, 0) ?_
  refine hK.1 80 [some (vR 31), some (vI x1), some (vI x2), some (vI x3), some (vI (I 38 (x3.toNat)))] [vI (((u2 I 33 ((I 38 (x3.toNat)).toNat) ((I 33 ((I 38 (x3.toNat)).toNat)) - x2)) 33 ((fXor (I 38 (x3.toNat)) 1).toNat)) + x2), vI (fXor (I 38 (x3.toNat)) 1), vR 33] (sh, (u2 I 33 ((I 38 (x3.toNat)).toNat) ((I 33 ((I 38 (x3.toNat)).toNat)) - x2)), L) (0, 0) ?_
  refine And.intro (And.intro (sk_33 hs) (ixL (sl_33 hs) b77)) ?_
  refine hK.1 81 [some (vR 31), some (vI x1), some (vI x2), some (vI x3), some (vI (I 38 (x3.toNat)))] [] (sh, (u2 (u2 I 33 ((I 38 (x3.toNat)).toNat) ((I 33 ((I 38 (x3.toNat)).toNat)) - x2)) 33 ((fXor (I 38 (x3.toNat)) 1).toNat) (((u2 I 33 ((I 38 (x3.toNat)).toNat) ((I 33 ((I 38 (x3.toNat)).toNat)) - x2)) 33 ((fXor (I 38 (x3.toNat)) 1).toNat)) + x2)), L) (0, 0) ?_
  refine hK.1 82 [some (vR 31), some (vI x1), some (vI x2), some (vI x3), some (vI (I 38 (x3.toNat)))] [vR 31] (sh, (u2 (u2 I 33 ((I 38 (x3.toNat)).toNat) ((I 33 ((I 38 (x3.toNat)).toNat)) - x2)) 33 ((fXor (I 38 (x3.toNat)) 1).toNat) (((u2 I 33 ((I 38 (x3.toNat)).toNat) ((I 33 ((I 38 (x3.toNat)).toNat)) - x2)) 33 ((fXor (I 38 (x3.toNat)) 1).toNat)) + x2)), L) (0, 0) ?_
  refine hK.1 83 [some (vR 31), some (vI x1), some (vI x2), some (vI x3), some (vI (I 38 (x3.toNat)))] [vR 31, vR 31] (sh, (u2 (u2 I 33 ((I 38 (x3.toNat)).toNat) ((I 33 ((I 38 (x3.toNat)).toNat)) - x2)) 33 ((fXor (I 38 (x3.toNat)) 1).toNat) (((u2 I 33 ((I 38 (x3.toNat)).toNat) ((I 33 ((I 38 (x3.toNat)).toNat)) - x2)) 33 ((fXor (I 38 (x3.toNat)) 1).toNat)) + x2)), L) (0, 0) ?_
  refine And.intro (mem1 (sk_31 hs)) ?_
  refine hK.1 86 [some (vR 31), some (vI x1), some (vI x2), some (vI x3), some (vI (I 38 (x3.toNat)))] [vI (I 31 12), vR 31] (sh, (u2 (u2 I 33 ((I 38 (x3.toNat)).toNat) ((I 33 ((I 38 (x3.toNat)).toNat)) - x2)) 33 ((fXor (I 38 (x3.toNat)) 1).toNat) (((u2 I 33 ((I 38 (x3.toNat)).toNat) ((I 33 ((I 38 (x3.toNat)).toNat)) - x2)) 33 ((fXor (I 38 (x3.toNat)) 1).toNat)) + x2)), L) (0, 0) ?_
  refine hK.1 87 [some (vR 31), some (vI x1), some (vI x2), some (vI x3), some (vI (I 38 (x3.toNat)))] [vI x2, vI (I 31 12), vR 31] (sh, (u2 (u2 I 33 ((I 38 (x3.toNat)).toNat) ((I 33 ((I 38 (x3.toNat)).toNat)) - x2)) 33 ((fXor (I 38 (x3.toNat)) 1).toNat) (((u2 I 33 ((I 38 (x3.toNat)).toNat) ((I 33 ((I 38 (x3.toNat)).toNat)) - x2)) 33 ((fXor (I 38 (x3.toNat)) 1).toNat)) + x2)), L) (0, 0) ?_
  refine hK.1 88 [some (vR 31), some (vI x1), some (vI x2), some (vI x3), some (vI (I 38 (x3.toNat)))] [vR 31, vI x2, vI (I 31 12), vR 31] (sh, (u2 (u2 I 33 ((I 38 (x3.toNat)).toNat) ((I 33 ((I 38 (x3.toNat)).toNat)) - x2)) 33 ((fXor (I 38 (x3.toNat)) 1).toNat) (((u2 I 33 ((I 38 (x3.toNat)).toNat) ((I 33 ((I 38 (x3.toNat)).toNat)) - x2)) 33 ((fXor (I 38 (x3.toNat)) 1).toNat)) + x2)), L) (0, 0) ?_
  refine And.intro (mem1 (sk_31 hs)) (Exists.intro 34 (And.intro (sr_31_2 hs) ?_))
  refine hK.1 91 [some (vR 31), some (vI x1), some (vI x2), some (vI x3), some (vI (I 38 (x3.toNat)))] [vR 34, vI x2, vI (I 31 12), vR 31] (sh, (u2 (u2 I 33 ((I 38 (x3.toNat)).toNat) ((I 33 ((I 38 (x3.toNat)).toNat)) - x2)) 33 ((fXor (I 38 (x3.toNat)) 1).toNat) (((u2 I 33 ((I 38 (x3.toNat)).toNat) ((I 33 ((I 38 (x3.toNat)).toNat)) - x2)) 33 ((fXor (I 38 (x3.toNat)) 1).toNat)) + x2)), L) (0, 0) ?_
  refine hK.1 93 [some (vR 31), some (vI x1), some (vI x2), some (vI x3), some (vI (I 38 (x3.toNat)))] [vI (I 38 (x3.toNat)), vR 34, vI x2, vI (I 31 12), vR 31] (sh, (u2 (u2 I 33 ((I 38 (x3.toNat)).toNat) ((I 33 ((I 38 (x3.toNat)).toNat)) - x2)) 33 ((fXor (I 38 (x3.toNat)) 1).toNat) (((u2 I 33 ((I 38 (x3.toNat)).toNat) ((I 33 ((I 38 (x3.toNat)).toNat)) - x2)) 33 ((fXor (I 38 (x3.toNat)) 1).toNat)) + x2)), L) (0, 0) ?_
  refine And.intro (And.intro (sk_34 hs) (ixL (sl_34 hs) b64)) ?_
  refine hK.1 94 [some (vR 31), some (vI x1), some (vI x2), some (vI x3), some (vI (I 38 (x3.toNat)))] [vI (I 34 ((I 38 (x3.toNat)).toNat)), vI x2, vI (I 31 12), vR 31] (sh, (u2 (u2 I 33 ((I 38 (x3.toNat)).toNat) ((I 33 ((I 38 (x3.toNat)).toNat)) - x2)) 33 ((fXor (I 38 (x3.toNat)) 1).toNat) (((u2 I 33 ((I 38 (x3.toNat)).toNat) ((I 33 ((I 38 (x3.toNat)).toNat)) - x2)) 33 ((fXor (I 38 (x3.toNat)) 1).toNat)) + x2)), L) (0, 0) ?_
  refine hK.1 95 [some (vR 31), some (vI x1), some (vI x2), some (vI x3), some (vI (I 38 (x3.toNat)))] [vI (x2 * (I 34 ((I 38 (x3.toNat)).toNat))), vI (I 31 12), vR 31] (sh, (u2 (u2 I 33 ((I 38 (x3.toNat)).toNat) ((I 33 ((I 38 (x3.toNat)).toNat)) - x2)) 33 ((fXor (I 38 (x3.toNat)) 1).toNat) (((u2 I 33 ((I 38 (x3.toNat)).toNat) ((I 33 ((I 38 (x3.toNat)).toNat)) - x2)) 33 ((fXor (I 38 (x3.toNat)) 1).toNat)) + x2)), L) (0, 0) ?_
  refine hK.1 96 [some (vR 31), some (vI x1), some (vI x2), some (vI x3), some (vI (I 38 (x3.toNat)))] [vI ((I 31 12) + (x2 * (I 34 ((I 38 (x3.toNat)).toNat)))), vR 31] (sh, (u2 (u2 I 33 ((I 38 (x3.toNat)).toNat) ((I 33 ((I 38 (x3.toNat)).toNat)) - x2)) 33 ((fXor (I 38 (x3.toNat)) 1).toNat) (((u2 I 33 ((I 38 (x3.toNat)).toNat) ((I 33 ((I 38 (x3.toNat)).toNat)) - x2)) 33 ((fXor (I 38 (x3.toNat)) 1).toNat)) + x2)), L) (0, 0) ?_
  refine And.intro (mem1 (sk_31 hs)) ?_
  refine hK.1 99 [some (vR 31), some (vI x1), some (vI x2), some (vI x3), some (vI (I 38 (x3.toNat)))] [] (sh, (u2 (u2 (u2 I 33 ((I 38 (x3.toNat)).toNat) ((I 33 ((I 38 (x3.toNat)).toNat)) - x2)) 33 ((fXor (I 38 (x3.toNat)) 1).toNat) (((u2 I 33 ((I 38 (x3.toNat)).toNat) ((I 33 ((I 38 (x3.toNat)).toNat)) - x2)) 33 ((fXor (I 38 (x3.toNat)) 1).toNat)) + x2)) 31 12 ((I 31 12) + (x2 * (I 34 ((I 38 (x3.toNat)).toNat))))), L) (0, 0) ?_
  refine hK.1 100 [some (vR 31), some (vI x1), some (vI x2), some (vI x3), some (vI (I 38 (x3.toNat)))] [vR 31] (sh, (u2 (u2 (u2 I 33 ((I 38 (x3.toNat)).toNat) ((I 33 ((I 38 (x3.toNat)).toNat)) - x2)) 33 ((fXor (I 38 (x3.toNat)) 1).toNat) (((u2 I 33 ((I 38 (x3.toNat)).toNat) ((I 33 ((I 38 (x3.toNat)).toNat)) - x2)) 33 ((fXor (I 38 (x3.toNat)) 1).toNat)) + x2)) 31 12 ((I 31 12) + (x2 * (I 34 ((I 38 (x3.toNat)).toNat))))), L) (0, 0) ?_
  refine And.intro (mem1 (sk_31 hs)) (Exists.intro 40 (And.intro (sr_31_8 hs) ?_))
  refine hK.1 103 [some (vR 31), some (vI x1), some (vI x2), some (vI x3), some (vI (I 38 (x3.toNat)))] [vR 40] (sh, (u2 (u2 (u2 I 33 ((I 38 (x3.toNat)).toNat) ((I 33 ((I 38 (x3.toNat)).toNat)) - x2)) 33 ((fXor (I 38 (x3.toNat)) 1).toNat) (((u2 I 33 ((I 38 (x3.toNat)).toNat) ((I 33 ((I 38 (x3.toNat)).toNat)) - x2)) 33 ((fXor (I 38 (x3.toNat)) 1).toNat)) + x2)) 31 12 ((I 31 12) + (x2 * (I 34 ((I 38 (x3.toNat)).toNat))))), L) (0, 0) ?_
  refine hK.1 104 [some (vR 31), some (vI x1), some (vI x2), some (vI x3), some (vI (I 38 (x3.toNat)))] [vR 31, vR 40] (sh, (u2 (u2 (u2 I 33 ((I 38 (x3.toNat)).toNat) ((I 33 ((I 38 (x3.toNat)).toNat)) - x2)) 33 ((fXor (I 38 (x3.toNat)) 1).toNat) (((u2 I 33 ((I 38 (x3.toNat)).toNat) ((I 33 ((I 38 (x3.toNat)).toNat)) - x2)) 33 ((fXor (I 38 (x3.toNat)) 1).toNat)) + x2)) 31 12 ((I 31 12) + (x2 * (I 34 ((I 38 (x3.toNat)).toNat))))), L) (0, 0) ?_
  refine And.intro (mem1 (sk_31 hs)) (Exists.intro 32 (And.intro (sr_31_0 hs) ?_))
  refine hK.1 107 [some (vR 31), some (vI x1), some (vI x2), some (vI x3), some (vI (I 38 (x3.toNat)))] [vR 32, vR 40] (sh, (u2 (u2 (u2 I 33 ((I 38 (x3.toNat)).toNat) ((I 33 ((I 38 (x3.toNat)).toNat)) - x2)) 33 ((fXor (I 38 (x3.toNat)) 1).toNat) (((u2 I 33 ((I 38 (x3.toNat)).toNat) ((I 33 ((I 38 (x3.toNat)).toNat)) - x2)) 33 ((fXor (I 38 (x3.toNat)) 1).toNat)) + x2)) 31 12 ((I 31 12) + (x2 * (I 34 ((I 38 (x3.toNat)).toNat))))), L) (0, 0) ?_
  refine hK.1 109 [some (vR 31), some (vI x1), some (vI x2), some (vI x3), some (vI (I 38 (x3.toNat)))] [vI (I 38 (x3.toNat)), vR 32, vR 40] (sh, (u2 (u2 (u2 I 33 ((I 38 (x3.toNat)).toNat) ((I 33 ((I 38 (x3.toNat)).toNat)) - x2)) 33 ((fXor (I 38 (x3.toNat)) 1).toNat) (((u2 I 33 ((I 38 (x3.toNat)).toNat) ((I 33 ((I 38 (x3.toNat)).toNat)) - x2)) 33 ((fXor (I 38 (x3.toNat)) 1).toNat)) + x2)) 31 12 ((I 31 12) + (x2 * (I 34 ((I 38 (x3.toNat)).toNat))))), L) (0, 0) ?_
  refine hK.1 110 [some (vR 31), some (vI x1), some (vI x2), some (vI x3), some (vI (I 38 (x3.toNat)))] [vI 1, vI (I 38 (x3.toNat)), vR 32, vR 40] (sh, (u2 (u2 (u2 I 33 ((I 38 (x3.toNat)).toNat) ((I 33 ((I 38 (x3.toNat)).toNat)) - x2)) 33 ((fXor (I 38 (x3.toNat)) 1).toNat) (((u2 I 33 ((I 38 (x3.toNat)).toNat) ((I 33 ((I 38 (x3.toNat)).toNat)) - x2)) 33 ((fXor (I 38 (x3.toNat)) 1).toNat)) + x2)) 31 12 ((I 31 12) + (x2 * (I 34 ((I 38 (x3.toNat)).toNat))))), L) (0, 0) ?_
  refine hK.1 111 [some (vR 31), some (vI x1), some (vI x2), some (vI x3), some (vI (I 38 (x3.toNat)))] [vI (fXor (I 38 (x3.toNat)) 1), vR 32, vR 40] (sh, (u2 (u2 (u2 I 33 ((I 38 (x3.toNat)).toNat) ((I 33 ((I 38 (x3.toNat)).toNat)) - x2)) 33 ((fXor (I 38 (x3.toNat)) 1).toNat) (((u2 I 33 ((I 38 (x3.toNat)).toNat) ((I 33 ((I 38 (x3.toNat)).toNat)) - x2)) 33 ((fXor (I 38 (x3.toNat)) 1).toNat)) + x2)) 31 12 ((I 31 12) + (x2 * (I 34 ((I 38 (x3.toNat)).toNat))))), L) (0, 0) ?_
  refine And.intro (And.intro (sk_32 hs) (ixL (sl_32 hs) b77)) ?_
  refine hK.1 112 [some (vR 31), some (vI x1), some (vI x2), some (vI x3), some (vI (I 38 (x3.toNat)))] [vI (I 32 ((fXor (I 38 (x3.toNat)) 1).toNat)), vR 40] (sh, (u2 (u2 (u2 I 33 ((I 38 (x3.toNat)).toNat) ((I 33 ((I 38 (x3.toNat)).toNat)) - x2)) 33 ((fXor (I 38 (x3.toNat)) 1).toNat) (((u2 I 33 ((I 38 (x3.toNat)).toNat) ((I 33 ((I 38 (x3.toNat)).toNat)) - x2)) 33 ((fXor (I 38 (x3.toNat)) 1).toNat)) + x2)) 31 12 ((I 31 12) + (x2 * (I 34 ((I 38 (x3.toNat)).toNat))))), L) (0, 0) ?_
  refine hK.1 113 [some (vR 31), some (vI x1), some (vI x2), some (vI x3), some (vI (I 38 (x3.toNat)))] [vI 0, vI (I 32 ((fXor (I 38 (x3.toNat)) 1).toNat)), vR 40] (sh, (u2 (u2 (u2 I 33 ((I 38 (x3.toNat)).toNat) ((I 33 ((I 38 (x3.toNat)).toNat)) - x2)) 33 ((fXor (I 38 (x3.toNat)) 1).toNat) (((u2 I 33 ((I 38 (x3.toNat)).toNat) ((I 33 ((I 38 (x3.toNat)).toNat)) - x2)) 33 ((fXor (I 38 (x3.toNat)) 1).toNat)) + x2)) 31 12 ((I 31 12) + (x2 * (I 34 ((I 38 (x3.toNat)).toNat))))), L) (0, 0) ?_
  refine And.intro (And.intro (sk_40 hs) (And.intro ((ixL (sl_40 hs) b113)).1 (And.intro ((ixL (sl_40 hs) b113)).2 (by decide)))) ?_
  refine hK.1 114 [some (vR 31), some (vI x1), some (vI x2), some (vI x3), some (vI (I 38 (x3.toNat)))] [] (sh, (u2 (u2 (u2 (u2 I 33 ((I 38 (x3.toNat)).toNat) ((I 33 ((I 38 (x3.toNat)).toNat)) - x2)) 33 ((fXor (I 38 (x3.toNat)) 1).toNat) (((u2 I 33 ((I 38 (x3.toNat)).toNat) ((I 33 ((I 38 (x3.toNat)).toNat)) - x2)) 33 ((fXor (I 38 (x3.toNat)) 1).toNat)) + x2)) 31 12 ((I 31 12) + (x2 * (I 34 ((I 38 (x3.toNat)).toNat))))) 40 ((I 32 ((fXor (I 38 (x3.toNat)) 1).toNat)).toNat) 0), L) (0, 0) ?_
  refine hK.1 117 [some (vR 31), some (vI x1), some (vI x2), some (vI (x3 + 1)), some (vI (I 38 (x3.toNat)))] [] (sh, (u2 (u2 (u2 (u2 I 33 ((I 38 (x3.toNat)).toNat) ((I 33 ((I 38 (x3.toNat)).toNat)) - x2)) 33 ((fXor (I 38 (x3.toNat)) 1).toNat) (((u2 I 33 ((I 38 (x3.toNat)).toNat) ((I 33 ((I 38 (x3.toNat)).toNat)) - x2)) 33 ((fXor (I 38 (x3.toNat)) 1).toNat)) + x2)) 31 12 ((I 31 12) + (x2 * (I 34 ((I 38 (x3.toNat)).toNat))))) 40 ((I 32 ((fXor (I 38 (x3.toNat)) 1).toNat)).toNat) 0), L) (0, 0) ?_
  refine hK.2 [true, true, true, true, false] _ _ _ _ _ ?_
  exact k
set_option maxRecDepth 4000 in
theorem B_X7_push_120 {Q : oQ} {K : oK} (hK : oCl tb_X7_push Q K) {sh : oS} (hs : Sh sh) {I : Nat → Nat → Int} {L : Nat → Nat → Int64} {x2 : Int} (k : Q none (sh, (u2 I 31 11 ((I 31 11) + x2)), L)) : K 120 [some (vR 31), none, some (vI x2), none, none] [] (sh, I, L) (0, 0) := by
  refine hK.1 120 [some (vR 31), none, some (vI x2), none, none] [] (sh, I, L) (0, 0) ?_
  refine hK.1 121 [some (vR 31), none, some (vI x2), none, none] [vR 31] (sh, I, L) (0, 0) ?_
  refine hK.1 122 [some (vR 31), none, some (vI x2), none, none] [vR 31, vR 31] (sh, I, L) (0, 0) ?_
  refine And.intro (mem1 (sk_31 hs)) ?_
  refine hK.1 125 [some (vR 31), none, some (vI x2), none, none] [vI (I 31 11), vR 31] (sh, I, L) (0, 0) ?_
  refine hK.1 126 [some (vR 31), none, some (vI x2), none, none] [vI x2, vI (I 31 11), vR 31] (sh, I, L) (0, 0) ?_
  refine hK.1 127 [some (vR 31), none, some (vI x2), none, none] [vI ((I 31 11) + x2), vR 31] (sh, I, L) (0, 0) ?_
  refine And.intro (mem1 (sk_31 hs)) ?_
  refine hK.1 130 [some (vR 31), none, some (vI x2), none, none] [] (sh, (u2 I 31 11 ((I 31 11) + x2)), L) (0, 0) ?_
  exact And.intro rfl (And.intro ⟨by decide, by decide⟩ k)
set_option maxRecDepth 4000 in
theorem B_X7_fill_0 {Q : oQ} {K : oK} (hK : oCl tb_X7_fill Q K) {sh : oS} {I : Nat → Nat → Int} {L : Nat → Nat → Int64}  (k : K 2 [some (vR 31), some (vI 0), none, none] [] (sh, I, L) (0, 0)) : K 0 [some (vR 31), none, none, none] [] (sh, I, L) (0, 0) := by
  refine hK.1 0 [some (vR 31), none, none, none] [] (sh, I, L) (0, 0) ?_
  refine hK.1 1 [some (vR 31), none, none, none] [vI 0] (sh, I, L) (0, 0) ?_
  exact k
set_option maxRecDepth 4000 in
theorem B_X7_fill_2 {Q : oQ} {K : oK} (hK : oCl tb_X7_fill Q K) {sh : oS} {I : Nat → Nat → Int} {L : Nat → Nat → Int64} {x1 : Int} (n6a : inR x1) (kt : 1000 ≤ x1 → K 96 [none, none, none, none] [] (sh, I, L) (0, 0)) (kf : ¬ (1000 ≤ x1) → K 9 [some (vR 31), some (vI x1), none, none] [] (sh, I, L) (0, 0)) : K 2 [some (vR 31), some (vI x1), none, none] [] (sh, I, L) (0, 0) := by
  refine hK.1 2 [some (vR 31), some (vI x1), none, none] [] (sh, I, L) (0, 0) ?_
  refine hK.1 3 [some (vR 31), some (vI x1), none, none] [vI x1] (sh, I, L) (0, 0) ?_
  refine hK.1 6 [some (vR 31), some (vI x1), none, none] [vI 1000, vI x1] (sh, I, L) (0, 0) ?_
  exact And.intro (And.intro n6a ⟨by decide, by decide⟩) (And.intro (fun h => hK.2 [false, false, false, false] _ _ _ _ _ (kt h)) (fun h => hK.2 [true, true, false, false] _ _ _ _ _ (kf h)))
set_option maxRecDepth 4000 in
theorem B_X7_fill_9 {Q : oQ} {K : oK} (hK : oCl tb_X7_fill Q K) {sh : oS} (hs : Sh sh) {I : Nat → Nat → Int} {L : Nat → Nat → Int64} {x1 : Int} (k : T_X7_measure [vR 31] (sh, I, L) (fun r mm => K 13 [some (vR 31), some (vI x1), none, none] (r.toList ++ []) mm (0, 0))) : K 9 [some (vR 31), some (vI x1), none, none] [] (sh, I, L) (0, 0) := by
  refine hK.1 9 [some (vR 31), some (vI x1), none, none] [] (sh, I, L) (0, 0) ?_
  refine hK.1 10 [some (vR 31), some (vI x1), none, none] [vR 31] (sh, I, L) (0, 0) ?_
  exact And.intro ⟨(sk_31 hs), Nat.le_of_ble_eq_true rfl, Nat.le_of_ble_eq_true rfl, Nat.le_of_ble_eq_true rfl, Nat.le_of_ble_eq_true rfl⟩ k
set_option maxRecDepth 4000 in
theorem B_X7_fill_13 {Q : oQ} {K : oK} (hK : oCl tb_X7_fill Q K) {sh : oS} {I : Nat → Nat → Int} {L : Nat → Nat → Int64} {x1 : Int} {s0 : Int} (n13 : inR s0) (kt : s0 = 0 → K 96 [none, none, none, none] [] (sh, I, L) (0, 0)) (kf : ¬ (s0 = 0) → K 16 [some (vR 31), some (vI x1), none, none] [] (sh, I, L) (0, 0)) : K 13 [some (vR 31), some (vI x1), none, none] [vI s0] (sh, I, L) (0, 0) := by
  refine hK.1 13 [some (vR 31), some (vI x1), none, none] [vI s0] (sh, I, L) (0, 0) ?_
  exact And.intro (n13) (And.intro (fun h => hK.2 [false, false, false, false] _ _ _ _ _ (kt h)) (fun h => hK.2 [true, true, false, false] _ _ _ _ _ (kf h)))
set_option maxRecDepth 4000 in
theorem B_X7_fill_16 {Q : oQ} {K : oK} (hK : oCl tb_X7_fill Q K) {sh : oS} (hs : Sh sh) {I : Nat → Nat → Int} {L : Nat → Nat → Int64} {x1 : Int} (c30 : (0 : Int) ≤ I 31 9 ∧ (0 : Int) ≤ 0 ∧ (0 : Int) ≤ 0 ∧ (0 : Int) + I 31 9 ≤ 324 ∧ (0 : Int) + I 31 9 ≤ 324) (k : K 35 [some (vR 31), some (vI x1), some (vI 0), none] [] (sh, (oCpy I 36 0 39 0 ((I 31 9).toNat)), L) (0, 0)) : K 16 [some (vR 31), some (vI x1), none, none] [] (sh, I, L) (0, 0) := by
  refine hK.1 16 [some (vR 31), some (vI x1), none, none] [] (sh, I, L) (0, 0) ?_
  refine hK.1 17 [some (vR 31), some (vI x1), none, none] [vR 31] (sh, I, L) (0, 0) ?_
  refine And.intro (mem1 (sk_31 hs)) (Exists.intro 36 (And.intro (sr_31_4 hs) ?_))
  refine hK.1 20 [some (vR 31), some (vI x1), none, none] [vR 36] (sh, I, L) (0, 0) ?_
  refine hK.1 21 [some (vR 31), some (vI x1), none, none] [vI 0, vR 36] (sh, I, L) (0, 0) ?_
  refine hK.1 22 [some (vR 31), some (vI x1), none, none] [vR 31, vI 0, vR 36] (sh, I, L) (0, 0) ?_
  refine And.intro (mem1 (sk_31 hs)) (Exists.intro 39 (And.intro (sr_31_7 hs) ?_))
  refine hK.1 25 [some (vR 31), some (vI x1), none, none] [vR 39, vI 0, vR 36] (sh, I, L) (0, 0) ?_
  refine hK.1 26 [some (vR 31), some (vI x1), none, none] [vI 0, vR 39, vI 0, vR 36] (sh, I, L) (0, 0) ?_
  refine hK.1 27 [some (vR 31), some (vI x1), none, none] [vR 31, vI 0, vR 39, vI 0, vR 36] (sh, I, L) (0, 0) ?_
  refine And.intro (mem1 (sk_31 hs)) ?_
  refine hK.1 30 [some (vR 31), some (vI x1), none, none] [vI (I 31 9), vI 0, vR 39, vI 0, vR 36] (sh, I, L) (0, 0) ?_
  refine And.intro ⟨sk_36 hs, sk_39 hs, c30.1, c30.2.1, c30.2.2.1, cpL (sl_36 hs) c30.2.2.2.1, cpL (sl_39 hs) c30.2.2.2.2, Nat.le_of_ble_eq_true rfl⟩ ?_
  refine hK.1 33 [some (vR 31), some (vI x1), none, none] [] (sh, (oCpy I 36 0 39 0 ((I 31 9).toNat)), L) (0, 0) ?_
  refine hK.1 34 [some (vR 31), some (vI x1), none, none] [vI 0] (sh, (oCpy I 36 0 39 0 ((I 31 9).toNat)), L) (0, 0) ?_
  exact k
set_option maxRecDepth 4000 in
theorem B_X7_fill_35 {Q : oQ} {K : oK} (hK : oCl tb_X7_fill Q K) {sh : oS} (hs : Sh sh) {I : Nat → Nat → Int} {L : Nat → Nat → Int64} {x1 : Int} {x2 : Int} (n40a : inR x2) (n40b : inR (I 31 9)) (kt : I 31 9 ≤ x2 → K 56 [some (vR 31), some (vI x1), none, none] [] (sh, I, L) (0, 0)) (kf : ¬ (I 31 9 ≤ x2) → K 43 [some (vR 31), some (vI x1), some (vI x2), none] [] (sh, I, L) (0, 0)) : K 35 [some (vR 31), some (vI x1), some (vI x2), none] [] (sh, I, L) (0, 0) := by
  refine hK.1 35 [some (vR 31), some (vI x1), some (vI x2), none] [] (sh, I, L) (0, 0) ?_
  refine hK.1 36 [some (vR 31), some (vI x1), some (vI x2), none] [vI x2] (sh, I, L) (0, 0) ?_
  refine hK.1 37 [some (vR 31), some (vI x1), some (vI x2), none] [vR 31, vI x2] (sh, I, L) (0, 0) ?_
  refine And.intro (mem1 (sk_31 hs)) ?_
  refine hK.1 40 [some (vR 31), some (vI x1), some (vI x2), none] [vI (I 31 9), vI x2] (sh, I, L) (0, 0) ?_
  exact And.intro (And.intro n40a n40b) (And.intro (fun h => hK.2 [true, true, false, false] _ _ _ _ _ (kt h)) (fun h => hK.2 [true, true, true, false] _ _ _ _ _ (kf h)))
set_option maxRecDepth 4000 in
theorem B_X7_fill_43 {Q : oQ} {K : oK} (hK : oCl tb_X7_fill Q K) {sh : oS} (hs : Sh sh) {I : Nat → Nat → Int} {L : Nat → Nat → Int64} {x1 : Int} {x2 : Int} (b49 : 0 ≤ x2 ∧ x2 < 324) (k : K 35 [some (vR 31), some (vI x1), some (vI (x2 + 1)), none] [] (sh, (u2 I 40 (x2.toNat) 0), L) (0, 0)) : K 43 [some (vR 31), some (vI x1), some (vI x2), none] [] (sh, I, L) (0, 0) := by
  refine hK.1 43 [some (vR 31), some (vI x1), some (vI x2), none] [] (sh, I, L) (0, 0) ?_
  refine hK.1 44 [some (vR 31), some (vI x1), some (vI x2), none] [vR 31] (sh, I, L) (0, 0) ?_
  refine And.intro (mem1 (sk_31 hs)) (Exists.intro 40 (And.intro (sr_31_8 hs) ?_))
  refine hK.1 47 [some (vR 31), some (vI x1), some (vI x2), none] [vR 40] (sh, I, L) (0, 0) ?_
  refine hK.1 48 [some (vR 31), some (vI x1), some (vI x2), none] [vI x2, vR 40] (sh, I, L) (0, 0) ?_
  refine hK.1 49 [some (vR 31), some (vI x1), some (vI x2), none] [vI 0, vI x2, vR 40] (sh, I, L) (0, 0) ?_
  refine And.intro (And.intro (sk_40 hs) (And.intro ((ixL (sl_40 hs) b49)).1 (And.intro ((ixL (sl_40 hs) b49)).2 (by decide)))) ?_
  refine hK.1 50 [some (vR 31), some (vI x1), some (vI x2), none] [] (sh, (u2 I 40 (x2.toNat) 0), L) (0, 0) ?_
  refine hK.1 53 [some (vR 31), some (vI x1), some (vI (x2 + 1)), none] [] (sh, (u2 I 40 (x2.toNat) 0), L) (0, 0) ?_
  exact k
set_option maxRecDepth 4000 in
theorem B_X7_fill_56 {Q : oQ} {K : oK} (hK : oCl tb_X7_fill Q K) {sh : oS} (hs : Sh sh) {I : Nat → Nat → Int} {L : Nat → Nat → Int64} {x1 : Int} (k : T_X7_thread [vR 31] (sh, I, L) (fun r mm => K 60 [some (vR 31), some (vI x1), none, none] (r.toList ++ []) mm (0, 0))) : K 56 [some (vR 31), some (vI x1), none, none] [] (sh, I, L) (0, 0) := by
  refine hK.1 56 [some (vR 31), some (vI x1), none, none] [] (sh, I, L) (0, 0) ?_
  refine hK.1 57 [some (vR 31), some (vI x1), none, none] [vR 31] (sh, I, L) (0, 0) ?_
  exact And.intro ⟨(sk_31 hs), Nat.le_of_ble_eq_true rfl, Nat.le_of_ble_eq_true rfl, Nat.le_of_ble_eq_true rfl, Nat.le_of_ble_eq_true rfl⟩ k
set_option maxRecDepth 4000 in
theorem B_X7_fill_60 {Q : oQ} {K : oK} (hK : oCl tb_X7_fill Q K) {sh : oS} {I : Nat → Nat → Int} {L : Nat → Nat → Int64} {x1 : Int} {s0 : Int} (k : K 63 [some (vR 31), some (vI x1), some (vI s0), some (vI 0)] [] (sh, I, L) (0, 0)) : K 60 [some (vR 31), some (vI x1), none, none] [vI s0] (sh, I, L) (0, 0) := by
  refine hK.1 60 [some (vR 31), some (vI x1), none, none] [vI s0] (sh, I, L) (0, 0) ?_
  refine hK.1 61 [some (vR 31), some (vI x1), some (vI s0), none] [] (sh, I, L) (0, 0) ?_
  refine hK.1 62 [some (vR 31), some (vI x1), some (vI s0), none] [vI 0] (sh, I, L) (0, 0) ?_
  exact k
set_option maxRecDepth 4000 in
theorem B_X7_fill_63 {Q : oQ} {K : oK} (hK : oCl tb_X7_fill Q K) {sh : oS} {I : Nat → Nat → Int} {L : Nat → Nat → Int64} {x1 : Int} {x2 : Int} {x3 : Int} (n67a : inR x3) (kt : 1000 ≤ x3 → K 90 [some (vR 31), some (vI x1), none, none] [] (sh, I, L) (0, 0)) (kf : ¬ (1000 ≤ x3) → K 70 [some (vR 31), some (vI x1), some (vI x2), some (vI x3)] [] (sh, I, L) (0, 0)) : K 63 [some (vR 31), some (vI x1), some (vI x2), some (vI x3)] [] (sh, I, L) (0, 0) := by
  refine hK.1 63 [some (vR 31), some (vI x1), some (vI x2), some (vI x3)] [] (sh, I, L) (0, 0) ?_
  refine hK.1 64 [some (vR 31), some (vI x1), some (vI x2), some (vI x3)] [vI x3] (sh, I, L) (0, 0) ?_
  refine hK.1 67 [some (vR 31), some (vI x1), some (vI x2), some (vI x3)] [vI 1000, vI x3] (sh, I, L) (0, 0) ?_
  exact And.intro (And.intro n67a ⟨by decide, by decide⟩) (And.intro (fun h => hK.2 [true, true, false, false] _ _ _ _ _ (kt h)) (fun h => hK.2 [true, true, true, true] _ _ _ _ _ (kf h)))
set_option maxRecDepth 4000 in
theorem B_X7_fill_70 {Q : oQ} {K : oK} (hK : oCl tb_X7_fill Q K) {sh : oS} {I : Nat → Nat → Int} {L : Nat → Nat → Int64} {x1 : Int} {x2 : Int} {x3 : Int} (n71 : inR x2) (kt : x2 ≤ 0 → K 90 [some (vR 31), some (vI x1), none, none] [] (sh, I, L) (0, 0)) (kf : ¬ (x2 ≤ 0) → K 74 [some (vR 31), some (vI x1), some (vI x2), some (vI x3)] [] (sh, I, L) (0, 0)) : K 70 [some (vR 31), some (vI x1), some (vI x2), some (vI x3)] [] (sh, I, L) (0, 0) := by
  refine hK.1 70 [some (vR 31), some (vI x1), some (vI x2), some (vI x3)] [] (sh, I, L) (0, 0) ?_
  refine hK.1 71 [some (vR 31), some (vI x1), some (vI x2), some (vI x3)] [vI x2] (sh, I, L) (0, 0) ?_
  exact And.intro (n71) (And.intro (fun h => hK.2 [true, true, false, false] _ _ _ _ _ (kt h)) (fun h => hK.2 [true, true, true, true] _ _ _ _ _ (kf h)))
set_option maxRecDepth 4000 in
theorem B_X7_fill_74 {Q : oQ} {K : oK} (hK : oCl tb_X7_fill Q K) {sh : oS} (hs : Sh sh) {I : Nat → Nat → Int} {L : Nat → Nat → Int64} {x1 : Int} {x2 : Int} {x3 : Int} (k : T_X7_push [vR 31, vI x2] (sh, I, L) (fun r mm => K 79 [some (vR 31), some (vI x1), none, some (vI x3)] (r.toList ++ []) mm (0, 0))) : K 74 [some (vR 31), some (vI x1), some (vI x2), some (vI x3)] [] (sh, I, L) (0, 0) := by
  refine hK.1 74 [some (vR 31), some (vI x1), some (vI x2), some (vI x3)] [] (sh, I, L) (0, 0) ?_
  refine hK.1 75 [some (vR 31), some (vI x1), some (vI x2), some (vI x3)] [vR 31] (sh, I, L) (0, 0) ?_
  refine hK.2 [true, true, false, true] _ _ _ _ _ ?_
  refine hK.1 76 [some (vR 31), some (vI x1), none, some (vI x3)] [vI x2, vR 31] (sh, I, L) (0, 0) ?_
  exact And.intro ⟨(sk_31 hs), Nat.le_of_ble_eq_true rfl, Nat.le_of_ble_eq_true rfl, Nat.le_of_ble_eq_true rfl, Nat.le_of_ble_eq_true rfl⟩ k
set_option maxRecDepth 4000 in
theorem B_X7_fill_79 {Q : oQ} {K : oK} (hK : oCl tb_X7_fill Q K) {sh : oS} (hs : Sh sh) {I : Nat → Nat → Int} {L : Nat → Nat → Int64} {x1 : Int} {x3 : Int} (k : T_X7_thread [vR 31] (sh, I, L) (fun r mm => K 83 [some (vR 31), some (vI x1), none, some (vI x3)] (r.toList ++ []) mm (0, 0))) : K 79 [some (vR 31), some (vI x1), none, some (vI x3)] [] (sh, I, L) (0, 0) := by
  refine hK.1 79 [some (vR 31), some (vI x1), none, some (vI x3)] [] (sh, I, L) (0, 0) ?_
  refine hK.1 80 [some (vR 31), some (vI x1), none, some (vI x3)] [vR 31] (sh, I, L) (0, 0) ?_
  exact And.intro ⟨(sk_31 hs), Nat.le_of_ble_eq_true rfl, Nat.le_of_ble_eq_true rfl, Nat.le_of_ble_eq_true rfl, Nat.le_of_ble_eq_true rfl⟩ k
set_option maxRecDepth 4000 in
theorem B_X7_fill_83 {Q : oQ} {K : oK} (hK : oCl tb_X7_fill Q K) {sh : oS} {I : Nat → Nat → Int} {L : Nat → Nat → Int64} {x1 : Int} {x3 : Int} {s0 : Int} (k : K 63 [some (vR 31), some (vI x1), some (vI s0), some (vI (x3 + 1))] [] (sh, I, L) (0, 0)) : K 83 [some (vR 31), some (vI x1), none, some (vI x3)] [vI s0] (sh, I, L) (0, 0) := by
  refine hK.1 83 [some (vR 31), some (vI x1), none, some (vI x3)] [vI s0] (sh, I, L) (0, 0) ?_
  refine hK.1 84 [some (vR 31), some (vI x1), some (vI s0), some (vI x3)] [] (sh, I, L) (0, 0) ?_
  refine hK.1 87 [some (vR 31), some (vI x1), some (vI s0), some (vI (x3 + 1))] [] (sh, I, L) (0, 0) ?_
  exact k
set_option maxRecDepth 4000 in
theorem B_X7_fill_90 {Q : oQ} {K : oK} (hK : oCl tb_X7_fill Q K) {sh : oS} {I : Nat → Nat → Int} {L : Nat → Nat → Int64} {x1 : Int} (k : K 2 [some (vR 31), some (vI (x1 + 1)), none, none] [] (sh, I, L) (0, 0)) : K 90 [some (vR 31), some (vI x1), none, none] [] (sh, I, L) (0, 0) := by
  refine hK.1 90 [some (vR 31), some (vI x1), none, none] [] (sh, I, L) (0, 0) ?_
  refine hK.1 93 [some (vR 31), some (vI (x1 + 1)), none, none] [] (sh, I, L) (0, 0) ?_
  exact k
set_option maxRecDepth 4000 in
theorem B_X7_fill_96 {Q : oQ} {K : oK} (hK : oCl tb_X7_fill Q K) {sh : oS} {I : Nat → Nat → Int} {L : Nat → Nat → Int64}  (k : Q none (sh, I, L)) : K 96 [none, none, none, none] [] (sh, I, L) (0, 0) := by
  refine hK.1 96 [none, none, none, none] [] (sh, I, L) (0, 0) ?_
  exact And.intro rfl (And.intro ⟨by decide, by decide⟩ k)
set_option maxRecDepth 4000 in
theorem B_X6_allMen_0 {Q : oQ} {K : oK} (hK : oCl tb_X6_allMen Q K) {sh : oS} {I : Nat → Nat → Int} {L : Nat → Nat → Int64} {h0 : Nat} (k : K 4 [some (vR h0), some (vI 0), some (vI 0)] [] (sh, I, L) (0, 0)) : K 0 [some (vR h0), none, none] [] (sh, I, L) (0, 0) := by
  refine hK.1 0 [some (vR h0), none, none] [] (sh, I, L) (0, 0) ?_
  refine hK.1 1 [some (vR h0), none, none] [vI 0] (sh, I, L) (0, 0) ?_
  refine hK.1 2 [some (vR h0), some (vI 0), none] [] (sh, I, L) (0, 0) ?_
  refine hK.1 3 [some (vR h0), some (vI 0), none] [vI 0] (sh, I, L) (0, 0) ?_
  exact k
set_option maxRecDepth 4000 in
theorem B_X6_allMen_4 {Q : oQ} {K : oK} (hK : oCl tb_X6_allMen Q K) {sh : oS} {I : Nat → Nat → Int} {L : Nat → Nat → Int64} {h0 : Nat} {x1 : Int} {x2 : Int} {h0e h0p h0t : Nat} (Ah0 : MarchAt sh h0 h0e h0p h0t) (n9a : inR x2) (n9b : inR (I h0 0)) (kt : I h0 0 ≤ x2 → K 27 [none, some (vI x1), none] [] (sh, I, L) (0, 0)) (kf : ¬ (I h0 0 ≤ x2) → K 12 [some (vR h0), some (vI x1), some (vI x2)] [] (sh, I, L) (0, 0)) : K 4 [some (vR h0), some (vI x1), some (vI x2)] [] (sh, I, L) (0, 0) := by
  refine hK.1 4 [some (vR h0), some (vI x1), some (vI x2)] [] (sh, I, L) (0, 0) ?_
  refine hK.1 5 [some (vR h0), some (vI x1), some (vI x2)] [vI x2] (sh, I, L) (0, 0) ?_
  refine hK.1 6 [some (vR h0), some (vI x1), some (vI x2)] [vR h0, vI x2] (sh, I, L) (0, 0) ?_
  refine And.intro (mem1 Ah0.1) ?_
  refine hK.1 9 [some (vR h0), some (vI x1), some (vI x2)] [vI (I h0 0), vI x2] (sh, I, L) (0, 0) ?_
  exact And.intro (And.intro n9a n9b) (And.intro (fun h => hK.2 [false, true, false] _ _ _ _ _ (kt h)) (fun h => hK.2 [true, true, true] _ _ _ _ _ (kf h)))
set_option maxRecDepth 4000 in
theorem B_X6_allMen_12 {Q : oQ} {K : oK} (hK : oCl tb_X6_allMen Q K) {sh : oS} {I : Nat → Nat → Int} {L : Nat → Nat → Int64} {h0 : Nat} {x1 : Int} {x2 : Int} {h0e h0p h0t : Nat} (Ah0 : MarchAt sh h0 h0e h0p h0t) (b18 : 0 ≤ x2 ∧ x2 < 10) (k : K 4 [some (vR h0), some (vI (x1 + (I h0e (x2.toNat)))), some (vI (x2 + 1))] [] (sh, I, L) (0, 0)) : K 12 [some (vR h0), some (vI x1), some (vI x2)] [] (sh, I, L) (0, 0) := by
  refine hK.1 12 [some (vR h0), some (vI x1), some (vI x2)] [] (sh, I, L) (0, 0) ?_
  refine hK.1 13 [some (vR h0), some (vI x1), some (vI x2)] [vI x1] (sh, I, L) (0, 0) ?_
  refine hK.1 14 [some (vR h0), some (vI x1), some (vI x2)] [vR h0, vI x1] (sh, I, L) (0, 0) ?_
  refine And.intro (mem1 Ah0.1) (Exists.intro h0e (And.intro Ah0.2.1 ?_))
  refine hK.1 17 [some (vR h0), some (vI x1), some (vI x2)] [vR h0e, vI x1] (sh, I, L) (0, 0) ?_
  refine hK.1 18 [some (vR h0), some (vI x1), some (vI x2)] [vI x2, vR h0e, vI x1] (sh, I, L) (0, 0) ?_
  refine And.intro (And.intro (Ah0.2.2.2.2.1.1) (ixL (Ah0.2.2.2.2.1.2) b18)) ?_
  refine hK.1 19 [some (vR h0), some (vI x1), some (vI x2)] [vI (I h0e (x2.toNat)), vI x1] (sh, I, L) (0, 0) ?_
  refine hK.1 20 [some (vR h0), some (vI x1), some (vI x2)] [vI (x1 + (I h0e (x2.toNat)))] (sh, I, L) (0, 0) ?_
  refine hK.1 21 [some (vR h0), some (vI (x1 + (I h0e (x2.toNat)))), some (vI x2)] [] (sh, I, L) (0, 0) ?_
  refine hK.1 24 [some (vR h0), some (vI (x1 + (I h0e (x2.toNat)))), some (vI (x2 + 1))] [] (sh, I, L) (0, 0) ?_
  exact k
set_option maxRecDepth 4000 in
theorem B_X6_allMen_27 {Q : oQ} {K : oK} (hK : oCl tb_X6_allMen Q K) {sh : oS} {I : Nat → Nat → Int} {L : Nat → Nat → Int64} {x1 : Int} (k : Q (some (vI x1)) (sh, I, L)) : K 27 [none, some (vI x1), none] [] (sh, I, L) (0, 0) := by
  refine hK.1 27 [none, some (vI x1), none] [] (sh, I, L) (0, 0) ?_
  refine hK.1 28 [none, some (vI x1), none] [vI x1] (sh, I, L) (0, 0) ?_
  exact And.intro ⟨by decide, by decide⟩ k
set_option maxRecDepth 4000 in
theorem B_X2_feed_0 {Q : oQ} {K : oK} (hK : oCl tb_X2_feed Q K) {sh : oS} (hs : Sh sh) {I : Nat → Nat → Int} {L : Nat → Nat → Int64} {h1 : Nat} {h2 : Nat} {x3 : Int} {x4 : Int} (k : T_X7_clear [vR 31, vI 20, vI 1] (sh, I, L) (fun r mm => K 10 [some (vR 24), some (vR h1), some (vR h2), some (vI x3), some (vI x4), none] (r.toList ++ []) mm (0, 0))) : K 0 [some (vR 24), some (vR h1), some (vR h2), some (vI x3), some (vI x4), none] [] (sh, I, L) (0, 0) := by
  refine hK.1 0 [some (vR 24), some (vR h1), some (vR h2), some (vI x3), some (vI x4), none] [] (sh, I, L) (0, 0) ?_
  refine hK.1 1 [some (vR 24), some (vR h1), some (vR h2), some (vI x3), some (vI x4), none] [vR 24] (sh, I, L) (0, 0) ?_
  refine And.intro (mem1 (sk_24 hs)) (Exists.intro 31 (And.intro (sr_24_3 hs) ?_))
  refine hK.1 4 [some (vR 24), some (vR h1), some (vR h2), some (vI x3), some (vI x4), none] [vR 31] (sh, I, L) (0, 0) ?_
  refine hK.1 6 [some (vR 24), some (vR h1), some (vR h2), some (vI x3), some (vI x4), none] [vI 20, vR 31] (sh, I, L) (0, 0) ?_
  refine hK.1 7 [some (vR 24), some (vR h1), some (vR h2), some (vI x3), some (vI x4), none] [vI 1, vI 20, vR 31] (sh, I, L) (0, 0) ?_
  exact And.intro ⟨(sk_31 hs), Nat.le_of_ble_eq_true rfl, Nat.le_of_ble_eq_true rfl, Nat.le_of_ble_eq_true rfl, Nat.le_of_ble_eq_true rfl⟩ k
set_option maxRecDepth 4000 in
theorem B_X2_feed_10 {Q : oQ} {K : oK} (hK : oCl tb_X2_feed Q K) {sh : oS} (hs : Sh sh) {I : Nat → Nat → Int} {L : Nat → Nat → Int64} {h1 : Nat} {h2 : Nat} {x3 : Int} {x4 : Int} (k : T_X2_lay [vR 24, vR h1, vR h2, vI x3, vI x4] (sh, I, L) (fun r mm => K 19 [some (vR 24), none, some (vR h2), none, none, none] (r.toList ++ []) mm (0, 0))) : K 10 [some (vR 24), some (vR h1), some (vR h2), some (vI x3), some (vI x4), none] [] (sh, I, L) (0, 0) := by
  refine hK.1 10 [some (vR 24), some (vR h1), some (vR h2), some (vI x3), some (vI x4), none] [] (sh, I, L) (0, 0) ?_
  refine hK.1 11 [some (vR 24), some (vR h1), some (vR h2), some (vI x3), some (vI x4), none] [vR 24] (sh, I, L) (0, 0) ?_
  refine hK.1 12 [some (vR 24), some (vR h1), some (vR h2), some (vI x3), some (vI x4), none] [vR h1, vR 24] (sh, I, L) (0, 0) ?_
  refine hK.1 13 [some (vR 24), some (vR h1), some (vR h2), some (vI x3), some (vI x4), none] [vR h2, vR h1, vR 24] (sh, I, L) (0, 0) ?_
  refine hK.1 14 [some (vR 24), some (vR h1), some (vR h2), some (vI x3), some (vI x4), none] [vI x3, vR h2, vR h1, vR 24] (sh, I, L) (0, 0) ?_
  refine hK.2 [true, false, true, false, false, false] _ _ _ _ _ ?_
  refine hK.1 16 [some (vR 24), none, some (vR h2), none, none, none] [vI x4, vI x3, vR h2, vR h1, vR 24] (sh, I, L) (0, 0) ?_
  exact And.intro ⟨(sk_24 hs), Nat.le_of_ble_eq_true rfl, Nat.le_of_ble_eq_true rfl, Nat.le_of_ble_eq_true rfl, Nat.le_of_ble_eq_true rfl⟩ k
set_option maxRecDepth 4000 in
theorem B_X2_feed_19 {Q : oQ} {K : oK} (hK : oCl tb_X2_feed Q K) {sh : oS} {I : Nat → Nat → Int} {L : Nat → Nat → Int64} {h2 : Nat} (k : K 22 [some (vR 24), none, some (vR h2), none, none, some (vI 0)] [] (sh, I, L) (0, 0)) : K 19 [some (vR 24), none, some (vR h2), none, none, none] [] (sh, I, L) (0, 0) := by
  refine hK.1 19 [some (vR 24), none, some (vR h2), none, none, none] [] (sh, I, L) (0, 0) ?_
  refine hK.1 20 [some (vR 24), none, some (vR h2), none, none, none] [vI 0] (sh, I, L) (0, 0) ?_
  exact k
set_option maxRecDepth 4000 in
theorem B_X2_feed_22 {Q : oQ} {K : oK} (hK : oCl tb_X2_feed Q K) {sh : oS} {I : Nat → Nat → Int} {L : Nat → Nat → Int64} {h2 : Nat} {x5 : Int} {h2e h2p h2t : Nat} (Ah2 : MarchAt sh h2 h2e h2p h2t) (n28a : inR x5) (n28b : inR (I h2 0)) (kt : I h2 0 ≤ x5 → K 58 [some (vR 24), none, some (vR h2), none, none, none] [] (sh, I, L) (0, 0)) (kf : ¬ (I h2 0 ≤ x5) → K 31 [some (vR 24), none, some (vR h2), none, none, some (vI x5)] [] (sh, I, L) (0, 0)) : K 22 [some (vR 24), none, some (vR h2), none, none, some (vI x5)] [] (sh, I, L) (0, 0) := by
  refine hK.1 22 [some (vR 24), none, some (vR h2), none, none, some (vI x5)] [] (sh, I, L) (0, 0) ?_
  refine hK.1 24 [some (vR 24), none, some (vR h2), none, none, some (vI x5)] [vI x5] (sh, I, L) (0, 0) ?_
  refine hK.1 25 [some (vR 24), none, some (vR h2), none, none, some (vI x5)] [vR h2, vI x5] (sh, I, L) (0, 0) ?_
  refine And.intro (mem1 Ah2.1) ?_
  refine hK.1 28 [some (vR 24), none, some (vR h2), none, none, some (vI x5)] [vI (I h2 0), vI x5] (sh, I, L) (0, 0) ?_
  exact And.intro (And.intro n28a n28b) (And.intro (fun h => hK.2 [true, false, true, false, false, false] _ _ _ _ _ (kt h)) (fun h => hK.2 [true, false, true, false, false, true] _ _ _ _ _ (kf h)))
set_option maxRecDepth 4000 in
theorem B_X2_feed_31 {Q : oQ} {K : oK} (hK : oCl tb_X2_feed Q K) {sh : oS} (hs : Sh sh) {I : Nat → Nat → Int} {L : Nat → Nat → Int64} {h2 : Nat} {x5 : Int} {h2e h2p h2t : Nat} (Ah2 : MarchAt sh h2 h2e h2p h2t) (b47 : 0 ≤ x5 ∧ x5 < 10) (k : T_X7_edge [vR 31, vI (10 + x5), vI 1, vI (I h2e (x5.toNat)), vI 0] (sh, I, L) (fun r mm => K 52 [some (vR 24), none, some (vR h2), none, none, some (vI x5)] (r.toList ++ []) mm (0, 0))) : K 31 [some (vR 24), none, some (vR h2), none, none, some (vI x5)] [] (sh, I, L) (0, 0) := by
  refine hK.1 31 [some (vR 24), none, some (vR h2), none, none, some (vI x5)] [] (sh, I, L) (0, 0) ?_
  refine hK.1 32 [some (vR 24), none, some (vR h2), none, none, some (vI x5)] [vR 24] (sh, I, L) (0, 0) ?_
  refine And.intro (mem1 (sk_24 hs)) (Exists.intro 31 (And.intro (sr_24_3 hs) ?_))
  refine hK.1 35 [some (vR 24), none, some (vR h2), none, none, some (vI x5)] [vR 31] (sh, I, L) (0, 0) ?_
  refine hK.1 37 [some (vR 24), none, some (vR h2), none, none, some (vI x5)] [vI 10, vR 31] (sh, I, L) (0, 0) ?_
  refine hK.1 39 [some (vR 24), none, some (vR h2), none, none, some (vI x5)] [vI x5, vI 10, vR 31] (sh, I, L) (0, 0) ?_
  refine hK.1 40 [some (vR 24), none, some (vR h2), none, none, some (vI x5)] [vI (10 + x5), vR 31] (sh, I, L) (0, 0) ?_
  refine hK.1 41 [some (vR 24), none, some (vR h2), none, none, some (vI x5)] [vI 1, vI (10 + x5), vR 31] (sh, I, L) (0, 0) ?_
  refine hK.1 42 [some (vR 24), none, some (vR h2), none, none, some (vI x5)] [vR h2, vI 1, vI (10 + x5), vR 31] (sh, I, L) (0, 0) ?_
  refine And.intro (mem1 Ah2.1) (Exists.intro h2e (And.intro Ah2.2.1 ?_))
  refine hK.1 45 [some (vR 24), none, some (vR h2), none, none, some (vI x5)] [vR h2e, vI 1, vI (10 + x5), vR 31] (sh, I, L) (0, 0) ?_
  refine hK.1 47 [some (vR 24), none, some (vR h2), none, none, some (vI x5)] [vI x5, vR h2e, vI 1, vI (10 + x5), vR 31] (sh, I, L) (0, 0) ?_
  refine And.intro (And.intro (Ah2.2.2.2.2.1.1) (ixL (Ah2.2.2.2.2.1.2) b47)) ?_
  refine hK.1 48 [some (vR 24), none, some (vR h2), none, none, some (vI x5)] [vI (I h2e (x5.toNat)), vI 1, vI (10 + x5), vR 31] (sh, I, L) (0, 0) ?_
  refine hK.1 49 [some (vR 24), none, some (vR h2), none, none, some (vI x5)] [vI 0, vI (I h2e (x5.toNat)), vI 1, vI (10 + x5), vR 31] (sh, I, L) (0, 0) ?_
  exact And.intro ⟨(sk_31 hs), Nat.le_of_ble_eq_true rfl, Nat.le_of_ble_eq_true rfl, Nat.le_of_ble_eq_true rfl, Nat.le_of_ble_eq_true rfl⟩ k
set_option maxRecDepth 4000 in
theorem B_X2_feed_52 {Q : oQ} {K : oK} (hK : oCl tb_X2_feed Q K) {sh : oS} {I : Nat → Nat → Int} {L : Nat → Nat → Int64} {h2 : Nat} {x5 : Int} (k : K 22 [some (vR 24), none, some (vR h2), none, none, some (vI (x5 + 1))] [] (sh, I, L) (0, 0)) : K 52 [some (vR 24), none, some (vR h2), none, none, some (vI x5)] [] (sh, I, L) (0, 0) := by
  refine hK.1 52 [some (vR 24), none, some (vR h2), none, none, some (vI x5)] [] (sh, I, L) (0, 0) ?_
  refine hK.1 55 [some (vR 24), none, some (vR h2), none, none, some (vI (x5 + 1))] [] (sh, I, L) (0, 0) ?_
  exact k
set_option maxRecDepth 4000 in
theorem B_X2_feed_58 {Q : oQ} {K : oK} (hK : oCl tb_X2_feed Q K) {sh : oS} (hs : Sh sh) {I : Nat → Nat → Int} {L : Nat → Nat → Int64} {h2 : Nat} (k : T_X7_fill [vR 31] (sh, I, L) (fun r mm => K 65 [some (vR 24), none, some (vR h2), none, none, none] (r.toList ++ []) mm (0, 0))) : K 58 [some (vR 24), none, some (vR h2), none, none, none] [] (sh, I, L) (0, 0) := by
  refine hK.1 58 [some (vR 24), none, some (vR h2), none, none, none] [] (sh, I, L) (0, 0) ?_
  refine hK.1 59 [some (vR 24), none, some (vR h2), none, none, none] [vR 24] (sh, I, L) (0, 0) ?_
  refine And.intro (mem1 (sk_24 hs)) (Exists.intro 31 (And.intro (sr_24_3 hs) ?_))
  refine hK.1 62 [some (vR 24), none, some (vR h2), none, none, none] [vR 31] (sh, I, L) (0, 0) ?_
  exact And.intro ⟨(sk_31 hs), Nat.le_of_ble_eq_true rfl, Nat.le_of_ble_eq_true rfl, Nat.le_of_ble_eq_true rfl, Nat.le_of_ble_eq_true rfl⟩ k
set_option maxRecDepth 4000 in
theorem B_X2_feed_65 {Q : oQ} {K : oK} (hK : oCl tb_X2_feed Q K) {sh : oS} {I : Nat → Nat → Int} {L : Nat → Nat → Int64} {h2 : Nat} {h2e h2p h2t : Nat} (k : T_X6_allMen [vR h2] (sh, I, L) (fun r mm => K 70 [some (vR 24), none, none, none, none, none] (r.toList ++ [vR 24]) mm (0, 0))) (Ah2 : MarchAt sh h2 h2e h2p h2t) : K 65 [some (vR 24), none, some (vR h2), none, none, none] [] (sh, I, L) (0, 0) := by
  refine hK.1 65 [some (vR 24), none, some (vR h2), none, none, none] [] (sh, I, L) (0, 0) ?_
  refine hK.1 66 [some (vR 24), none, some (vR h2), none, none, none] [vR 24] (sh, I, L) (0, 0) ?_
  refine hK.2 [true, false, false, false, false, false] _ _ _ _ _ ?_
  refine hK.1 67 [some (vR 24), none, none, none, none, none] [vR h2, vR 24] (sh, I, L) (0, 0) ?_
  exact And.intro ⟨Ah2.1, Nat.le_of_ble_eq_true rfl, Nat.le_of_ble_eq_true rfl, Nat.le_of_ble_eq_true rfl, Nat.le_of_ble_eq_true rfl⟩ k
set_option maxRecDepth 4000 in
theorem B_X2_feed_70 {Q : oQ} {K : oK} (hK : oCl tb_X2_feed Q K) {sh : oS} (hs : Sh sh) {I : Nat → Nat → Int} {L : Nat → Nat → Int64} {s1 : Int} (k : Q none (sh, (u2 (u2 I 24 4 (s1 - (I 31 11))) 24 5 (I 31 12)), L)) : K 70 [some (vR 24), none, none, none, none, none] [vI s1, vR 24] (sh, I, L) (0, 0) := by
  refine hK.1 70 [some (vR 24), none, none, none, none, none] [vI s1, vR 24] (sh, I, L) (0, 0) ?_
  refine hK.1 71 [some (vR 24), none, none, none, none, none] [vR 24, vI s1, vR 24] (sh, I, L) (0, 0) ?_
  refine And.intro (mem1 (sk_24 hs)) (Exists.intro 31 (And.intro (sr_24_3 hs) ?_))
  refine hK.1 74 [some (vR 24), none, none, none, none, none] [vR 31, vI s1, vR 24] (sh, I, L) (0, 0) ?_
  refine And.intro (mem1 (sk_31 hs)) ?_
  refine hK.1 77 [some (vR 24), none, none, none, none, none] [vI (I 31 11), vI s1, vR 24] (sh, I, L) (0, 0) ?_
  refine hK.1 78 [some (vR 24), none, none, none, none, none] [vI (s1 - (I 31 11)), vR 24] (sh, I, L) (0, 0) ?_
  refine And.intro (mem1 (sk_24 hs)) ?_
  refine hK.1 81 [some (vR 24), none, none, none, none, none] [] (sh, (u2 I 24 4 (s1 - (I 31 11))), L) (0, 0) ?_
  refine hK.1 82 [some (vR 24), none, none, none, none, none] [vR 24] (sh, (u2 I 24 4 (s1 - (I 31 11))), L) (0, 0) ?_
  refine hK.1 83 [some (vR 24), none, none, none, none, none] [vR 24, vR 24] (sh, (u2 I 24 4 (s1 - (I 31 11))), L) (0, 0) ?_
  refine And.intro (mem1 (sk_24 hs)) (Exists.intro 31 (And.intro (sr_24_3 hs) ?_))
  refine hK.1 86 [some (vR 24), none, none, none, none, none] [vR 31, vR 24] (sh, (u2 I 24 4 (s1 - (I 31 11))), L) (0, 0) ?_
  refine And.intro (mem1 (sk_31 hs)) ?_
  refine hK.1 89 [some (vR 24), none, none, none, none, none] [vI (I 31 12), vR 24] (sh, (u2 I 24 4 (s1 - (I 31 11))), L) (0, 0) ?_
  refine And.intro (mem1 (sk_24 hs)) ?_
  refine hK.1 92 [some (vR 24), none, none, none, none, none] [] (sh, (u2 (u2 I 24 4 (s1 - (I 31 11))) 24 5 (I 31 12)), L) (0, 0) ?_
  exact And.intro rfl (And.intro ⟨by decide, by decide⟩ k)
set_option maxRecDepth 4000 in
theorem B_X1_choice_0 {Q : oQ} {K : oK} (hK : oCl tb_X1_choice Q K) {sh : oS} {I : Nat → Nat → Int} {L : Nat → Nat → Int64} {h0 : Nat} {h2 : Nat} {h3 : Nat} (k : K 13 [some (vR h0), some (vR 24), some (vR h2), some (vR h3), some (vI 64), some (vI 0), some (vI 0), some (vI 0), none, none, none] [] (sh, I, L) (0, 0)) : K 0 [some (vR h0), some (vR 24), some (vR h2), some (vR h3), none, none, none, none, none, none, none] [] (sh, I, L) (0, 0) := by
  refine hK.1 0 [some (vR h0), some (vR 24), some (vR h2), some (vR h3), none, none, none, none, none, none, none] [] (sh, I, L) (0, 0) ?_
  refine hK.1 2 [some (vR h0), some (vR 24), some (vR h2), some (vR h3), none, none, none, none, none, none, none] [vI 64] (sh, I, L) (0, 0) ?_
  refine hK.1 4 [some (vR h0), some (vR 24), some (vR h2), some (vR h3), some (vI 64), none, none, none, none, none, none] [] (sh, I, L) (0, 0) ?_
  refine hK.1 5 [some (vR h0), some (vR 24), some (vR h2), some (vR h3), some (vI 64), none, none, none, none, none, none] [vI 0] (sh, I, L) (0, 0) ?_
  refine hK.1 7 [some (vR h0), some (vR 24), some (vR h2), some (vR h3), some (vI 64), some (vI 0), none, none, none, none, none] [] (sh, I, L) (0, 0) ?_
  refine hK.1 8 [some (vR h0), some (vR 24), some (vR h2), some (vR h3), some (vI 64), some (vI 0), none, none, none, none, none] [vI 0] (sh, I, L) (0, 0) ?_
  refine hK.1 10 [some (vR h0), some (vR 24), some (vR h2), some (vR h3), some (vI 64), some (vI 0), some (vI 0), none, none, none, none] [] (sh, I, L) (0, 0) ?_
  refine hK.1 11 [some (vR h0), some (vR 24), some (vR h2), some (vR h3), some (vI 64), some (vI 0), some (vI 0), none, none, none, none] [vI 0] (sh, I, L) (0, 0) ?_
  exact k
set_option maxRecDepth 4000 in
theorem B_X1_choice_13 {Q : oQ} {K : oK} (hK : oCl tb_X1_choice Q K) {sh : oS} {I : Nat → Nat → Int} {L : Nat → Nat → Int64} {h0 : Nat} {h2 : Nat} {h3 : Nat} {x4 : Int} {x5 : Int} {x6 : Int} {x7 : Int} {h2f h2w : Nat} (Ah2 : LandAt sh h2 h2f h2w) (n19a : inR x7) (n19b : inR (I h2 0)) (kt : I h2 0 ≤ x7 → K 183 [none, none, none, none, some (vI x4), none, none, none, none, none, none] [] (sh, I, L) (0, 0)) (kf : ¬ (I h2 0 ≤ x7) → K 22 [some (vR h0), some (vR 24), some (vR h2), some (vR h3), some (vI x4), some (vI x5), some (vI x6), some (vI x7), none, none, none] [] (sh, I, L) (0, 0)) : K 13 [some (vR h0), some (vR 24), some (vR h2), some (vR h3), some (vI x4), some (vI x5), some (vI x6), some (vI x7), none, none, none] [] (sh, I, L) (0, 0) := by
  refine hK.1 13 [some (vR h0), some (vR 24), some (vR h2), some (vR h3), some (vI x4), some (vI x5), some (vI x6), some (vI x7), none, none, none] [] (sh, I, L) (0, 0) ?_
  refine hK.1 15 [some (vR h0), some (vR 24), some (vR h2), some (vR h3), some (vI x4), some (vI x5), some (vI x6), some (vI x7), none, none, none] [vI x7] (sh, I, L) (0, 0) ?_
  refine hK.1 16 [some (vR h0), some (vR 24), some (vR h2), some (vR h3), some (vI x4), some (vI x5), some (vI x6), some (vI x7), none, none, none] [vR h2, vI x7] (sh, I, L) (0, 0) ?_
  refine And.intro (mem1 Ah2.1) ?_
  refine hK.1 19 [some (vR h0), some (vR 24), some (vR h2), some (vR h3), some (vI x4), some (vI x5), some (vI x6), some (vI x7), none, none, none] [vI (I h2 0), vI x7] (sh, I, L) (0, 0) ?_
  exact And.intro (And.intro n19a n19b) (And.intro (fun h => hK.2 [false, false, false, false, true, false, false, false, false, false, false] _ _ _ _ _ (kt h)) (fun h => hK.2 [true, true, true, true, true, true, true, true, false, false, false] _ _ _ _ _ (kf h)))
set_option maxRecDepth 4000 in
theorem B_X1_choice_22 {Q : oQ} {K : oK} (hK : oCl tb_X1_choice Q K) {sh : oS} {I : Nat → Nat → Int} {L : Nat → Nat → Int64} {h0 : Nat} {h2 : Nat} {h3 : Nat} {x4 : Int} {x5 : Int} {x6 : Int} {x7 : Int} (kh0_0 : sK sh h0 = 1) (n27a : inR (I h0 0)) (kt : ¬ I h0 0 = 1 → K 35 [some (vR h0), some (vR 24), some (vR h2), some (vR h3), some (vI x4), some (vI x5), some (vI x6), some (vI x7), none, none, none] [] (sh, I, L) (0, 0)) (kf : ¬ (¬ I h0 0 = 1) → K 30 [some (vR h0), some (vR 24), some (vR h2), some (vR h3), some (vI x4), some (vI x5), some (vI x6), some (vI x7), none, none, none] [] (sh, I, L) (0, 0)) : K 22 [some (vR h0), some (vR 24), some (vR h2), some (vR h3), some (vI x4), some (vI x5), some (vI x6), some (vI x7), none, none, none] [] (sh, I, L) (0, 0) := by
  refine hK.1 22 [some (vR h0), some (vR 24), some (vR h2), some (vR h3), some (vI x4), some (vI x5), some (vI x6), some (vI x7), none, none, none] [] (sh, I, L) (0, 0) ?_
  refine hK.1 23 [some (vR h0), some (vR 24), some (vR h2), some (vR h3), some (vI x4), some (vI x5), some (vI x6), some (vI x7), none, none, none] [vR h0] (sh, I, L) (0, 0) ?_
  refine And.intro (mem1 kh0_0) ?_
  refine hK.1 26 [some (vR h0), some (vR 24), some (vR h2), some (vR h3), some (vI x4), some (vI x5), some (vI x6), some (vI x7), none, none, none] [vI (I h0 0)] (sh, I, L) (0, 0) ?_
  refine hK.1 27 [some (vR h0), some (vR 24), some (vR h2), some (vR h3), some (vI x4), some (vI x5), some (vI x6), some (vI x7), none, none, none] [vI 1, vI (I h0 0)] (sh, I, L) (0, 0) ?_
  exact And.intro (And.intro n27a ⟨by decide, by decide⟩) (And.intro (fun h => hK.2 [true, true, true, true, true, true, true, true, false, false, false] _ _ _ _ _ (kt h)) (fun h => hK.2 [true, true, true, true, true, true, true, true, false, false, false] _ _ _ _ _ (kf h)))
set_option maxRecDepth 4000 in
theorem B_X1_choice_30 {Q : oQ} {K : oK} (hK : oCl tb_X1_choice Q K) {sh : oS} {I : Nat → Nat → Int} {L : Nat → Nat → Int64} {h0 : Nat} {h2 : Nat} {h3 : Nat} {x4 : Int} {x5 : Int} {x6 : Int} {x7 : Int} (k : K 41 [some (vR h0), some (vR 24), some (vR h2), some (vR h3), some (vI x4), some (vI x5), some (vI x6), some (vI x7), none, none, none] [vI x7] (sh, I, L) (0, 0)) : K 30 [some (vR h0), some (vR 24), some (vR h2), some (vR h3), some (vI x4), some (vI x5), some (vI x6), some (vI x7), none, none, none] [] (sh, I, L) (0, 0) := by
  refine hK.1 30 [some (vR h0), some (vR 24), some (vR h2), some (vR h3), some (vI x4), some (vI x5), some (vI x6), some (vI x7), none, none, none] [] (sh, I, L) (0, 0) ?_
  refine hK.1 32 [some (vR h0), some (vR 24), some (vR h2), some (vR h3), some (vI x4), some (vI x5), some (vI x6), some (vI x7), none, none, none] [vI x7] (sh, I, L) (0, 0) ?_
  exact k
set_option maxRecDepth 4000 in
theorem B_X1_choice_35 {Q : oQ} {K : oK} (hK : oCl tb_X1_choice Q K) {sh : oS} {I : Nat → Nat → Int} {L : Nat → Nat → Int64} {h0 : Nat} {h2 : Nat} {h3 : Nat} {x4 : Int} {x5 : Int} {x6 : Int} {x7 : Int} {h2f h2w : Nat} (Ah2 : LandAt sh h2 h2f h2w) (k : K 41 [some (vR h0), some (vR 24), some (vR h2), some (vR h3), some (vI x4), some (vI x5), some (vI x6), some (vI x7), none, none, none] [vI ((I h2 0) - 1)] (sh, I, L) (0, 0)) : K 35 [some (vR h0), some (vR 24), some (vR h2), some (vR h3), some (vI x4), some (vI x5), some (vI x6), some (vI x7), none, none, none] [] (sh, I, L) (0, 0) := by
  refine hK.1 35 [some (vR h0), some (vR 24), some (vR h2), some (vR h3), some (vI x4), some (vI x5), some (vI x6), some (vI x7), none, none, none] [] (sh, I, L) (0, 0) ?_
  refine hK.1 36 [some (vR h0), some (vR 24), some (vR h2), some (vR h3), some (vI x4), some (vI x5), some (vI x6), some (vI x7), none, none, none] [vR h2] (sh, I, L) (0, 0) ?_
  refine And.intro (mem1 Ah2.1) ?_
  refine hK.1 39 [some (vR h0), some (vR 24), some (vR h2), some (vR h3), some (vI x4), some (vI x5), some (vI x6), some (vI x7), none, none, none] [vI (I h2 0)] (sh, I, L) (0, 0) ?_
  refine hK.1 40 [some (vR h0), some (vR 24), some (vR h2), some (vR h3), some (vI x4), some (vI x5), some (vI x6), some (vI x7), none, none, none] [vI 1, vI (I h2 0)] (sh, I, L) (0, 0) ?_
  exact k
set_option maxRecDepth 4000 in
theorem B_X1_choice_41 {Q : oQ} {K : oK} (hK : oCl tb_X1_choice Q K) {sh : oS} {I : Nat → Nat → Int} {L : Nat → Nat → Int64} {h0 : Nat} {h2 : Nat} {h3 : Nat} {x4 : Int} {x5 : Int} {x6 : Int} {x7 : Int} {s0 : Int} (k : K 47 [some (vR h0), some (vR 24), some (vR h2), some (vR h3), some (vI x4), some (vI x5), some (vI x6), some (vI x7), some (vI s0), some (vI x7), none] [] (sh, I, L) (0, 0)) : K 41 [some (vR h0), some (vR 24), some (vR h2), some (vR h3), some (vI x4), some (vI x5), some (vI x6), some (vI x7), none, none, none] [vI s0] (sh, I, L) (0, 0) := by
  refine hK.1 41 [some (vR h0), some (vR 24), some (vR h2), some (vR h3), some (vI x4), some (vI x5), some (vI x6), some (vI x7), none, none, none] [vI s0] (sh, I, L) (0, 0) ?_
  refine hK.1 43 [some (vR h0), some (vR 24), some (vR h2), some (vR h3), some (vI x4), some (vI x5), some (vI x6), some (vI x7), some (vI s0), none, none] [] (sh, I, L) (0, 0) ?_
  refine hK.1 45 [some (vR h0), some (vR 24), some (vR h2), some (vR h3), some (vI x4), some (vI x5), some (vI x6), some (vI x7), some (vI s0), none, none] [vI x7] (sh, I, L) (0, 0) ?_
  exact k
set_option maxRecDepth 4000 in
theorem B_X1_choice_47 {Q : oQ} {K : oK} (hK : oCl tb_X1_choice Q K) {sh : oS} {I : Nat → Nat → Int} {L : Nat → Nat → Int64} {h0 : Nat} {h2 : Nat} {h3 : Nat} {x4 : Int} {x5 : Int} {x6 : Int} {x7 : Int} {x8 : Int} {x9 : Int} (n51a : inR x9) (n51b : inR x8) (kt : x8 < x9 → K 177 [some (vR h0), some (vR 24), some (vR h2), some (vR h3), some (vI x4), some (vI x5), some (vI x6), some (vI x7), none, none, none] [] (sh, I, L) (0, 0)) (kf : ¬ (x8 < x9) → K 54 [some (vR h0), some (vR 24), some (vR h2), some (vR h3), some (vI x4), some (vI x5), some (vI x6), some (vI x7), some (vI x8), some (vI x9), none] [] (sh, I, L) (0, 0)) : K 47 [some (vR h0), some (vR 24), some (vR h2), some (vR h3), some (vI x4), some (vI x5), some (vI x6), some (vI x7), some (vI x8), some (vI x9), none] [] (sh, I, L) (0, 0) := by
  refine hK.1 47 [some (vR h0), some (vR 24), some (vR h2), some (vR h3), some (vI x4), some (vI x5), some (vI x6), some (vI x7), some (vI x8), some (vI x9), none] [] (sh, I, L) (0, 0) ?_
  refine hK.1 49 [some (vR h0), some (vR 24), some (vR h2), some (vR h3), some (vI x4), some (vI x5), some (vI x6), some (vI x7), some (vI x8), some (vI x9), none] [vI x9] (sh, I, L) (0, 0) ?_
  refine hK.1 51 [some (vR h0), some (vR 24), some (vR h2), some (vR h3), some (vI x4), some (vI x5), some (vI x6), some (vI x7), some (vI x8), some (vI x9), none] [vI x8, vI x9] (sh, I, L) (0, 0) ?_
  exact And.intro (And.intro n51a n51b) (And.intro (fun h => hK.2 [true, true, true, true, true, true, true, true, false, false, false] _ _ _ _ _ (kt h)) (fun h => hK.2 [true, true, true, true, true, true, true, true, true, true, false] _ _ _ _ _ (kf h)))
set_option maxRecDepth 4000 in
theorem B_X1_choice_54 {Q : oQ} {K : oK} (hK : oCl tb_X1_choice Q K) {sh : oS} {I : Nat → Nat → Int} {L : Nat → Nat → Int64} {h0 : Nat} {h2 : Nat} {h3 : Nat} {x4 : Int} {x5 : Int} {x6 : Int} {x7 : Int} {x8 : Int} {x9 : Int} {h2f h2w : Nat} (Ah2 : LandAt sh h2 h2f h2w) (b60 : 0 ≤ x7 ∧ x7 < 8) (n61 : inR (I h2w (x7.toNat))) (kt : I h2w (x7.toNat) = 0 → K 171 [some (vR h0), some (vR 24), some (vR h2), some (vR h3), some (vI x4), some (vI x5), some (vI x6), some (vI x7), some (vI x8), some (vI x9), none] [] (sh, I, L) (0, 0)) (kf : ¬ (I h2w (x7.toNat) = 0) → K 64 [some (vR h0), some (vR 24), some (vR h2), some (vR h3), some (vI x4), some (vI x5), some (vI x6), some (vI x7), some (vI x8), some (vI x9), none] [] (sh, I, L) (0, 0)) : K 54 [some (vR h0), some (vR 24), some (vR h2), some (vR h3), some (vI x4), some (vI x5), some (vI x6), some (vI x7), some (vI x8), some (vI x9), none] [] (sh, I, L) (0, 0) := by
  refine hK.1 54 [some (vR h0), some (vR 24), some (vR h2), some (vR h3), some (vI x4), some (vI x5), some (vI x6), some (vI x7), some (vI x8), some (vI x9), none] [] (sh, I, L) (0, 0) ?_
  refine hK.1 55 [some (vR h0), some (vR 24), some (vR h2), some (vR h3), some (vI x4), some (vI x5), some (vI x6), some (vI x7), some (vI x8), some (vI x9), none] [vR h2] (sh, I, L) (0, 0) ?_
  refine And.intro (mem1 Ah2.1) (Exists.intro h2w (And.intro Ah2.2.2.1 ?_))
  refine hK.1 58 [some (vR h0), some (vR 24), some (vR h2), some (vR h3), some (vI x4), some (vI x5), some (vI x6), some (vI x7), some (vI x8), some (vI x9), none] [vR h2w] (sh, I, L) (0, 0) ?_
  refine hK.1 60 [some (vR h0), some (vR 24), some (vR h2), some (vR h3), some (vI x4), some (vI x5), some (vI x6), some (vI x7), some (vI x8), some (vI x9), none] [vI x7, vR h2w] (sh, I, L) (0, 0) ?_
  refine And.intro (And.intro (Ah2.2.2.2.2.1) (ixL (Ah2.2.2.2.2.2) b60)) ?_
  refine hK.1 61 [some (vR h0), some (vR 24), some (vR h2), some (vR h3), some (vI x4), some (vI x5), some (vI x6), some (vI x7), some (vI x8), some (vI x9), none] [vI (I h2w (x7.toNat))] (sh, I, L) (0, 0) ?_
  exact And.intro (n61) (And.intro (fun h => hK.2 [true, true, true, true, true, true, true, true, true, true, false] _ _ _ _ _ (kt h)) (fun h => hK.2 [true, true, true, true, true, true, true, true, true, true, false] _ _ _ _ _ (kf h)))
set_option maxRecDepth 4000 in
theorem B_X1_choice_64 {Q : oQ} {K : oK} (hK : oCl tb_X1_choice Q K) {sh : oS} {I : Nat → Nat → Int} {L : Nat → Nat → Int64} {h0 : Nat} {h2 : Nat} {h3 : Nat} {x4 : Int} {x5 : Int} {x6 : Int} {x7 : Int} {x8 : Int} {x9 : Int} {h2f h2w : Nat} (Ah2 : LandAt sh h2 h2f h2w) (b70 : 0 ≤ x9 ∧ x9 < 8) (n71 : inR (I h2w (x9.toNat))) (kt : ¬ I h2w (x9.toNat) = 0 → K 77 [some (vR h0), some (vR 24), some (vR h2), some (vR h3), some (vI x4), some (vI x5), some (vI x6), some (vI x7), some (vI x8), some (vI x9), none] [] (sh, I, L) (0, 0)) (kf : ¬ (¬ I h2w (x9.toNat) = 0) → K 74 [some (vR h0), some (vR 24), some (vR h2), some (vR h3), some (vI x4), some (vI x5), some (vI x6), some (vI x7), some (vI x8), some (vI x9), none] [] (sh, I, L) (0, 0)) : K 64 [some (vR h0), some (vR 24), some (vR h2), some (vR h3), some (vI x4), some (vI x5), some (vI x6), some (vI x7), some (vI x8), some (vI x9), none] [] (sh, I, L) (0, 0) := by
  refine hK.1 64 [some (vR h0), some (vR 24), some (vR h2), some (vR h3), some (vI x4), some (vI x5), some (vI x6), some (vI x7), some (vI x8), some (vI x9), none] [] (sh, I, L) (0, 0) ?_
  refine hK.1 65 [some (vR h0), some (vR 24), some (vR h2), some (vR h3), some (vI x4), some (vI x5), some (vI x6), some (vI x7), some (vI x8), some (vI x9), none] [vR h2] (sh, I, L) (0, 0) ?_
  refine And.intro (mem1 Ah2.1) (Exists.intro h2w (And.intro Ah2.2.2.1 ?_))
  refine hK.1 68 [some (vR h0), some (vR 24), some (vR h2), some (vR h3), some (vI x4), some (vI x5), some (vI x6), some (vI x7), some (vI x8), some (vI x9), none] [vR h2w] (sh, I, L) (0, 0) ?_
  refine hK.1 70 [some (vR h0), some (vR 24), some (vR h2), some (vR h3), some (vI x4), some (vI x5), some (vI x6), some (vI x7), some (vI x8), some (vI x9), none] [vI x9, vR h2w] (sh, I, L) (0, 0) ?_
  refine And.intro (And.intro (Ah2.2.2.2.2.1) (ixL (Ah2.2.2.2.2.2) b70)) ?_
  refine hK.1 71 [some (vR h0), some (vR 24), some (vR h2), some (vR h3), some (vI x4), some (vI x5), some (vI x6), some (vI x7), some (vI x8), some (vI x9), none] [vI (I h2w (x9.toNat))] (sh, I, L) (0, 0) ?_
  exact And.intro (n71) (And.intro (fun h => hK.2 [true, true, true, true, true, true, true, true, true, true, false] _ _ _ _ _ (kt h)) (fun h => hK.2 [true, true, true, true, true, true, true, true, true, true, false] _ _ _ _ _ (kf h)))
set_option maxRecDepth 4000 in
theorem B_X1_choice_74 {Q : oQ} {K : oK} (hK : oCl tb_X1_choice Q K) {sh : oS} {I : Nat → Nat → Int} {L : Nat → Nat → Int64} {h0 : Nat} {h2 : Nat} {h3 : Nat} {x4 : Int} {x5 : Int} {x6 : Int} {x7 : Int} {x8 : Int} {x9 : Int} (k : K 171 [some (vR h0), some (vR 24), some (vR h2), some (vR h3), some (vI x4), some (vI x5), some (vI x6), some (vI x7), some (vI x8), some (vI x9), none] [] (sh, I, L) (0, 0)) : K 74 [some (vR h0), some (vR 24), some (vR h2), some (vR h3), some (vI x4), some (vI x5), some (vI x6), some (vI x7), some (vI x8), some (vI x9), none] [] (sh, I, L) (0, 0) := by
  refine hK.1 74 [some (vR h0), some (vR 24), some (vR h2), some (vR h3), some (vI x4), some (vI x5), some (vI x6), some (vI x7), some (vI x8), some (vI x9), none] [] (sh, I, L) (0, 0) ?_
  exact k
set_option maxRecDepth 4000 in
theorem B_X1_choice_77 {Q : oQ} {K : oK} (hK : oCl tb_X1_choice Q K) {sh : oS} {I : Nat → Nat → Int} {L : Nat → Nat → Int64} {h0 : Nat} {h2 : Nat} {h3 : Nat} {x4 : Int} {x5 : Int} {x6 : Int} {x7 : Int} {x8 : Int} {x9 : Int} (k : T_X1_settle [vR h0, vR 24, vR h2, vR h3, vI ((8 * x7) + x9)] (sh, I, L) (fun r mm => K 92 [some (vR h0), some (vR 24), some (vR h2), some (vR h3), some (vI x4), some (vI x5), some (vI x6), some (vI x7), some (vI x8), some (vI x9), none] (r.toList ++ []) mm (0, 0))) (kh0_0 : sK sh h0 = 1) : K 77 [some (vR h0), some (vR 24), some (vR h2), some (vR h3), some (vI x4), some (vI x5), some (vI x6), some (vI x7), some (vI x8), some (vI x9), none] [] (sh, I, L) (0, 0) := by
  refine hK.1 77 [some (vR h0), some (vR 24), some (vR h2), some (vR h3), some (vI x4), some (vI x5), some (vI x6), some (vI x7), some (vI x8), some (vI x9), none] [] (sh, I, L) (0, 0) ?_
  refine hK.1 78 [some (vR h0), some (vR 24), some (vR h2), some (vR h3), some (vI x4), some (vI x5), some (vI x6), some (vI x7), some (vI x8), some (vI x9), none] [vR h0] (sh, I, L) (0, 0) ?_
  refine hK.1 79 [some (vR h0), some (vR 24), some (vR h2), some (vR h3), some (vI x4), some (vI x5), some (vI x6), some (vI x7), some (vI x8), some (vI x9), none] [vR 24, vR h0] (sh, I, L) (0, 0) ?_
  refine hK.1 80 [some (vR h0), some (vR 24), some (vR h2), some (vR h3), some (vI x4), some (vI x5), some (vI x6), some (vI x7), some (vI x8), some (vI x9), none] [vR h2, vR 24, vR h0] (sh, I, L) (0, 0) ?_
  refine hK.1 81 [some (vR h0), some (vR 24), some (vR h2), some (vR h3), some (vI x4), some (vI x5), some (vI x6), some (vI x7), some (vI x8), some (vI x9), none] [vR h3, vR h2, vR 24, vR h0] (sh, I, L) (0, 0) ?_
  refine hK.1 83 [some (vR h0), some (vR 24), some (vR h2), some (vR h3), some (vI x4), some (vI x5), some (vI x6), some (vI x7), some (vI x8), some (vI x9), none] [vI 8, vR h3, vR h2, vR 24, vR h0] (sh, I, L) (0, 0) ?_
  refine hK.1 85 [some (vR h0), some (vR 24), some (vR h2), some (vR h3), some (vI x4), some (vI x5), some (vI x6), some (vI x7), some (vI x8), some (vI x9), none] [vI x7, vI 8, vR h3, vR h2, vR 24, vR h0] (sh, I, L) (0, 0) ?_
  refine hK.1 86 [some (vR h0), some (vR 24), some (vR h2), some (vR h3), some (vI x4), some (vI x5), some (vI x6), some (vI x7), some (vI x8), some (vI x9), none] [vI (8 * x7), vR h3, vR h2, vR 24, vR h0] (sh, I, L) (0, 0) ?_
  refine hK.1 88 [some (vR h0), some (vR 24), some (vR h2), some (vR h3), some (vI x4), some (vI x5), some (vI x6), some (vI x7), some (vI x8), some (vI x9), none] [vI x9, vI (8 * x7), vR h3, vR h2, vR 24, vR h0] (sh, I, L) (0, 0) ?_
  refine hK.1 89 [some (vR h0), some (vR 24), some (vR h2), some (vR h3), some (vI x4), some (vI x5), some (vI x6), some (vI x7), some (vI x8), some (vI x9), none] [vI ((8 * x7) + x9), vR h3, vR h2, vR 24, vR h0] (sh, I, L) (0, 0) ?_
  exact And.intro ⟨kh0_0, Nat.le_of_ble_eq_true rfl, Nat.le_of_ble_eq_true rfl, Nat.le_of_ble_eq_true rfl, Nat.le_of_ble_eq_true rfl⟩ k
set_option maxRecDepth 4000 in
theorem B_X1_choice_92 {Q : oQ} {K : oK} (hK : oCl tb_X1_choice Q K) {sh : oS} {I : Nat → Nat → Int} {L : Nat → Nat → Int64} {h0 : Nat} {h2 : Nat} {h3 : Nat} {x4 : Int} {x5 : Int} {x6 : Int} {x7 : Int} {x8 : Int} {x9 : Int} {h3e h3p h3t : Nat} (k : T_X6_wayOn [vR h3] (sh, I, L) (fun r mm => K 99 [some (vR h0), some (vR 24), some (vR h2), some (vR h3), some (vI x4), some (vI x5), some (vI x6), some (vI x7), some (vI x8), some (vI x9), none] (r.toList ++ [vR h3, vR h2, vR 24]) mm (0, 0))) (Ah3 : MarchAt sh h3 h3e h3p h3t) : K 92 [some (vR h0), some (vR 24), some (vR h2), some (vR h3), some (vI x4), some (vI x5), some (vI x6), some (vI x7), some (vI x8), some (vI x9), none] [] (sh, I, L) (0, 0) := by
  refine hK.1 92 [some (vR h0), some (vR 24), some (vR h2), some (vR h3), some (vI x4), some (vI x5), some (vI x6), some (vI x7), some (vI x8), some (vI x9), none] [] (sh, I, L) (0, 0) ?_
  refine hK.1 93 [some (vR h0), some (vR 24), some (vR h2), some (vR h3), some (vI x4), some (vI x5), some (vI x6), some (vI x7), some (vI x8), some (vI x9), none] [vR 24] (sh, I, L) (0, 0) ?_
  refine hK.1 94 [some (vR h0), some (vR 24), some (vR h2), some (vR h3), some (vI x4), some (vI x5), some (vI x6), some (vI x7), some (vI x8), some (vI x9), none] [vR h2, vR 24] (sh, I, L) (0, 0) ?_
  refine hK.1 95 [some (vR h0), some (vR 24), some (vR h2), some (vR h3), some (vI x4), some (vI x5), some (vI x6), some (vI x7), some (vI x8), some (vI x9), none] [vR h3, vR h2, vR 24] (sh, I, L) (0, 0) ?_
  refine hK.1 96 [some (vR h0), some (vR 24), some (vR h2), some (vR h3), some (vI x4), some (vI x5), some (vI x6), some (vI x7), some (vI x8), some (vI x9), none] [vR h3, vR h3, vR h2, vR 24] (sh, I, L) (0, 0) ?_
  exact And.intro ⟨Ah3.1, Nat.le_of_ble_eq_true rfl, Nat.le_of_ble_eq_true rfl, Nat.le_of_ble_eq_true rfl, Nat.le_of_ble_eq_true rfl⟩ k
set_option maxRecDepth 4000 in
theorem B_X1_choice_99 {Q : oQ} {K : oK} (hK : oCl tb_X1_choice Q K) {sh : oS} (hs : Sh sh) {I : Nat → Nat → Int} {L : Nat → Nat → Int64} {h0 : Nat} {h2 : Nat} {h3 : Nat} {x4 : Int} {x5 : Int} {x6 : Int} {x7 : Int} {x8 : Int} {x9 : Int} {s1 : Nat} {s2 : Nat} {s3 : Int} (k : T_X2_feed [vR 24, vR s1, vR s2, vI s3, vI 0] (sh, I, L) (fun r mm => K 103 [some (vR h0), some (vR 24), some (vR h2), some (vR h3), some (vI x4), some (vI x5), some (vI x6), some (vI x7), some (vI x8), some (vI x9), none] (r.toList ++ []) mm (0, 0))) : K 99 [some (vR h0), some (vR 24), some (vR h2), some (vR h3), some (vI x4), some (vI x5), some (vI x6), some (vI x7), some (vI x8), some (vI x9), none] [vI s3, vR s2, vR s1, vR 24] (sh, I, L) (0, 0) := by
  refine hK.1 99 [some (vR h0), some (vR 24), some (vR h2), some (vR h3), some (vI x4), some (vI x5), some (vI x6), some (vI x7), some (vI x8), some (vI x9), none] [vI s3, vR s2, vR s1, vR 24] (sh, I, L) (0, 0) ?_
  refine hK.1 100 [some (vR h0), some (vR 24), some (vR h2), some (vR h3), some (vI x4), some (vI x5), some (vI x6), some (vI x7), some (vI x8), some (vI x9), none] [vI 0, vI s3, vR s2, vR s1, vR 24] (sh, I, L) (0, 0) ?_
  exact And.intro ⟨(sk_24 hs), Nat.le_of_ble_eq_true rfl, Nat.le_of_ble_eq_true rfl, Nat.le_of_ble_eq_true rfl, Nat.le_of_ble_eq_true rfl⟩ k
set_option maxRecDepth 4000 in
theorem B_X1_choice_103 {Q : oQ} {K : oK} (hK : oCl tb_X1_choice Q K) {sh : oS} (hs : Sh sh) {I : Nat → Nat → Int} {L : Nat → Nat → Int64} {h0 : Nat} {h2 : Nat} {h3 : Nat} {x4 : Int} {x5 : Int} {x6 : Int} {x7 : Int} {x8 : Int} {x9 : Int} (n109a : inR (I 24 4)) (n109b : inR x5) (kt : I 24 4 < x5 → K 130 [some (vR h0), some (vR 24), some (vR h2), some (vR h3), some (vI x4), some (vI x5), some (vI x6), some (vI x7), some (vI x8), some (vI x9), none] [] (sh, I, L) (0, 0)) (kf : ¬ (I 24 4 < x5) → K 112 [some (vR h0), some (vR 24), some (vR h2), some (vR h3), some (vI x4), some (vI x5), some (vI x6), some (vI x7), some (vI x8), some (vI x9), none] [] (sh, I, L) (0, 0)) : K 103 [some (vR h0), some (vR 24), some (vR h2), some (vR h3), some (vI x4), some (vI x5), some (vI x6), some (vI x7), some (vI x8), some (vI x9), none] [] (sh, I, L) (0, 0) := by
  refine hK.1 103 [some (vR h0), some (vR 24), some (vR h2), some (vR h3), some (vI x4), some (vI x5), some (vI x6), some (vI x7), some (vI x8), some (vI x9), none] [] (sh, I, L) (0, 0) ?_
  refine hK.1 104 [some (vR h0), some (vR 24), some (vR h2), some (vR h3), some (vI x4), some (vI x5), some (vI x6), some (vI x7), some (vI x8), some (vI x9), none] [vR 24] (sh, I, L) (0, 0) ?_
  refine And.intro (mem1 (sk_24 hs)) ?_
  refine hK.1 107 [some (vR h0), some (vR 24), some (vR h2), some (vR h3), some (vI x4), some (vI x5), some (vI x6), some (vI x7), some (vI x8), some (vI x9), none] [vI (I 24 4)] (sh, I, L) (0, 0) ?_
  refine hK.1 109 [some (vR h0), some (vR 24), some (vR h2), some (vR h3), some (vI x4), some (vI x5), some (vI x6), some (vI x7), some (vI x8), some (vI x9), none] [vI x5, vI (I 24 4)] (sh, I, L) (0, 0) ?_
  exact And.intro (And.intro n109a n109b) (And.intro (fun h => hK.2 [true, true, true, true, true, true, true, true, true, true, false] _ _ _ _ _ (kt h)) (fun h => hK.2 [true, true, true, true, true, true, true, true, true, true, false] _ _ _ _ _ (kf h)))
set_option maxRecDepth 4000 in
theorem B_X1_choice_112 {Q : oQ} {K : oK} (hK : oCl tb_X1_choice Q K) {sh : oS} (hs : Sh sh) {I : Nat → Nat → Int} {L : Nat → Nat → Int64} {h0 : Nat} {h2 : Nat} {h3 : Nat} {x4 : Int} {x5 : Int} {x6 : Int} {x7 : Int} {x8 : Int} {x9 : Int} (n118a : inR (I 24 4)) (n118b : inR x5) (kt : ¬ I 24 4 = x5 → K 134 [some (vR h0), some (vR 24), some (vR h2), some (vR h3), some (vI x4), some (vI x5), some (vI x6), some (vI x7), some (vI x8), some (vI x9), none] [] (sh, I, L) (0, 0)) (kf : ¬ (¬ I 24 4 = x5) → K 121 [some (vR h0), some (vR 24), some (vR h2), some (vR h3), some (vI x4), some (vI x5), some (vI x6), some (vI x7), some (vI x8), some (vI x9), none] [] (sh, I, L) (0, 0)) : K 112 [some (vR h0), some (vR 24), some (vR h2), some (vR h3), some (vI x4), some (vI x5), some (vI x6), some (vI x7), some (vI x8), some (vI x9), none] [] (sh, I, L) (0, 0) := by
  refine hK.1 112 [some (vR h0), some (vR 24), some (vR h2), some (vR h3), some (vI x4), some (vI x5), some (vI x6), some (vI x7), some (vI x8), some (vI x9), none] [] (sh, I, L) (0, 0) ?_
  refine hK.1 113 [some (vR h0), some (vR 24), some (vR h2), some (vR h3), some (vI x4), some (vI x5), some (vI x6), some (vI x7), some (vI x8), some (vI x9), none] [vR 24] (sh, I, L) (0, 0) ?_
  refine And.intro (mem1 (sk_24 hs)) ?_
  refine hK.1 116 [some (vR h0), some (vR 24), some (vR h2), some (vR h3), some (vI x4), some (vI x5), some (vI x6), some (vI x7), some (vI x8), some (vI x9), none] [vI (I 24 4)] (sh, I, L) (0, 0) ?_
  refine hK.1 118 [some (vR h0), some (vR 24), some (vR h2), some (vR h3), some (vI x4), some (vI x5), some (vI x6), some (vI x7), some (vI x8), some (vI x9), none] [vI x5, vI (I 24 4)] (sh, I, L) (0, 0) ?_
  exact And.intro (And.intro n118a n118b) (And.intro (fun h => hK.2 [true, true, true, true, true, true, true, true, true, true, false] _ _ _ _ _ (kt h)) (fun h => hK.2 [true, true, true, true, true, true, true, true, true, true, false] _ _ _ _ _ (kf h)))
set_option maxRecDepth 4000 in
theorem B_X1_choice_121 {Q : oQ} {K : oK} (hK : oCl tb_X1_choice Q K) {sh : oS} (hs : Sh sh) {I : Nat → Nat → Int} {L : Nat → Nat → Int64} {h0 : Nat} {h2 : Nat} {h3 : Nat} {x4 : Int} {x5 : Int} {x6 : Int} {x7 : Int} {x8 : Int} {x9 : Int} (n127a : inR (I 24 5)) (n127b : inR x6) (kt : x6 ≤ I 24 5 → K 134 [some (vR h0), some (vR 24), some (vR h2), some (vR h3), some (vI x4), some (vI x5), some (vI x6), some (vI x7), some (vI x8), some (vI x9), none] [] (sh, I, L) (0, 0)) (kf : ¬ (x6 ≤ I 24 5) → K 130 [some (vR h0), some (vR 24), some (vR h2), some (vR h3), some (vI x4), some (vI x5), some (vI x6), some (vI x7), some (vI x8), some (vI x9), none] [] (sh, I, L) (0, 0)) : K 121 [some (vR h0), some (vR 24), some (vR h2), some (vR h3), some (vI x4), some (vI x5), some (vI x6), some (vI x7), some (vI x8), some (vI x9), none] [] (sh, I, L) (0, 0) := by
  refine hK.1 121 [some (vR h0), some (vR 24), some (vR h2), some (vR h3), some (vI x4), some (vI x5), some (vI x6), some (vI x7), some (vI x8), some (vI x9), none] [] (sh, I, L) (0, 0) ?_
  refine hK.1 122 [some (vR h0), some (vR 24), some (vR h2), some (vR h3), some (vI x4), some (vI x5), some (vI x6), some (vI x7), some (vI x8), some (vI x9), none] [vR 24] (sh, I, L) (0, 0) ?_
  refine And.intro (mem1 (sk_24 hs)) ?_
  refine hK.1 125 [some (vR h0), some (vR 24), some (vR h2), some (vR h3), some (vI x4), some (vI x5), some (vI x6), some (vI x7), some (vI x8), some (vI x9), none] [vI (I 24 5)] (sh, I, L) (0, 0) ?_
  refine hK.1 127 [some (vR h0), some (vR 24), some (vR h2), some (vR h3), some (vI x4), some (vI x5), some (vI x6), some (vI x7), some (vI x8), some (vI x9), none] [vI x6, vI (I 24 5)] (sh, I, L) (0, 0) ?_
  exact And.intro (And.intro n127a n127b) (And.intro (fun h => hK.2 [true, true, true, true, true, true, true, true, true, true, false] _ _ _ _ _ (kt h)) (fun h => hK.2 [true, true, true, true, true, true, true, true, true, true, false] _ _ _ _ _ (kf h)))
set_option maxRecDepth 4000 in
theorem B_X1_choice_130 {Q : oQ} {K : oK} (hK : oCl tb_X1_choice Q K) {sh : oS} {I : Nat → Nat → Int} {L : Nat → Nat → Int64} {h0 : Nat} {h2 : Nat} {h3 : Nat} {x4 : Int} {x5 : Int} {x6 : Int} {x7 : Int} {x8 : Int} {x9 : Int} (k : K 135 [some (vR h0), some (vR 24), some (vR h2), some (vR h3), some (vI x4), some (vI x5), some (vI x6), some (vI x7), some (vI x8), some (vI x9), none] [vI 1] (sh, I, L) (0, 0)) : K 130 [some (vR h0), some (vR 24), some (vR h2), some (vR h3), some (vI x4), some (vI x5), some (vI x6), some (vI x7), some (vI x8), some (vI x9), none] [] (sh, I, L) (0, 0) := by
  refine hK.1 130 [some (vR h0), some (vR 24), some (vR h2), some (vR h3), some (vI x4), some (vI x5), some (vI x6), some (vI x7), some (vI x8), some (vI x9), none] [] (sh, I, L) (0, 0) ?_
  refine hK.1 131 [some (vR h0), some (vR 24), some (vR h2), some (vR h3), some (vI x4), some (vI x5), some (vI x6), some (vI x7), some (vI x8), some (vI x9), none] [vI 1] (sh, I, L) (0, 0) ?_
  exact k
set_option maxRecDepth 4000 in
theorem B_X1_choice_134 {Q : oQ} {K : oK} (hK : oCl tb_X1_choice Q K) {sh : oS} {I : Nat → Nat → Int} {L : Nat → Nat → Int64} {h0 : Nat} {h2 : Nat} {h3 : Nat} {x4 : Int} {x5 : Int} {x6 : Int} {x7 : Int} {x8 : Int} {x9 : Int} (k : K 135 [some (vR h0), some (vR 24), some (vR h2), some (vR h3), some (vI x4), some (vI x5), some (vI x6), some (vI x7), some (vI x8), some (vI x9), none] [vI 0] (sh, I, L) (0, 0)) : K 134 [some (vR h0), some (vR 24), some (vR h2), some (vR h3), some (vI x4), some (vI x5), some (vI x6), some (vI x7), some (vI x8), some (vI x9), none] [] (sh, I, L) (0, 0) := by
  refine hK.1 134 [some (vR h0), some (vR 24), some (vR h2), some (vR h3), some (vI x4), some (vI x5), some (vI x6), some (vI x7), some (vI x8), some (vI x9), none] [] (sh, I, L) (0, 0) ?_
  exact k
set_option maxRecDepth 4000 in
theorem B_X1_choice_135 {Q : oQ} {K : oK} (hK : oCl tb_X1_choice Q K) {sh : oS} {I : Nat → Nat → Int} {L : Nat → Nat → Int64} {h0 : Nat} {h2 : Nat} {h3 : Nat} {x4 : Int} {x5 : Int} {x6 : Int} {x7 : Int} {x8 : Int} {x9 : Int} {s0 : Int} (n141a : inR x4) (kt : x4 = 64 → K 149 [some (vR h0), some (vR 24), some (vR h2), some (vR h3), none, none, none, some (vI x7), some (vI x8), some (vI x9), none] [] (sh, I, L) (0, 0)) (kf : ¬ (x4 = 64) → K 144 [some (vR h0), some (vR 24), some (vR h2), some (vR h3), some (vI x4), some (vI x5), some (vI x6), some (vI x7), some (vI x8), some (vI x9), some (vI s0)] [] (sh, I, L) (0, 0)) : K 135 [some (vR h0), some (vR 24), some (vR h2), some (vR h3), some (vI x4), some (vI x5), some (vI x6), some (vI x7), some (vI x8), some (vI x9), none] [vI s0] (sh, I, L) (0, 0) := by
  refine hK.1 135 [some (vR h0), some (vR 24), some (vR h2), some (vR h3), some (vI x4), some (vI x5), some (vI x6), some (vI x7), some (vI x8), some (vI x9), none] [vI s0] (sh, I, L) (0, 0) ?_
  refine hK.1 137 [some (vR h0), some (vR 24), some (vR h2), some (vR h3), some (vI x4), some (vI x5), some (vI x6), some (vI x7), some (vI x8), some (vI x9), some (vI s0)] [] (sh, I, L) (0, 0) ?_
  refine hK.1 139 [some (vR h0), some (vR 24), some (vR h2), some (vR h3), some (vI x4), some (vI x5), some (vI x6), some (vI x7), some (vI x8), some (vI x9), some (vI s0)] [vI x4] (sh, I, L) (0, 0) ?_
  refine hK.1 141 [some (vR h0), some (vR 24), some (vR h2), some (vR h3), some (vI x4), some (vI x5), some (vI x6), some (vI x7), some (vI x8), some (vI x9), some (vI s0)] [vI 64, vI x4] (sh, I, L) (0, 0) ?_
  exact And.intro (And.intro n141a ⟨by decide, by decide⟩) (And.intro (fun h => hK.2 [true, true, true, true, false, false, false, true, true, true, false] _ _ _ _ _ (kt h)) (fun h => hK.2 [true, true, true, true, true, true, true, true, true, true, true] _ _ _ _ _ (kf h)))
set_option maxRecDepth 4000 in
theorem B_X1_choice_144 {Q : oQ} {K : oK} (hK : oCl tb_X1_choice Q K) {sh : oS} {I : Nat → Nat → Int} {L : Nat → Nat → Int64} {h0 : Nat} {h2 : Nat} {h3 : Nat} {x4 : Int} {x5 : Int} {x6 : Int} {x7 : Int} {x8 : Int} {x9 : Int} {x10 : Int} (n146 : inR x10) (kt : x10 = 0 → K 171 [some (vR h0), some (vR 24), some (vR h2), some (vR h3), some (vI x4), some (vI x5), some (vI x6), some (vI x7), some (vI x8), some (vI x9), none] [] (sh, I, L) (0, 0)) (kf : ¬ (x10 = 0) → K 149 [some (vR h0), some (vR 24), some (vR h2), some (vR h3), none, none, none, some (vI x7), some (vI x8), some (vI x9), none] [] (sh, I, L) (0, 0)) : K 144 [some (vR h0), some (vR 24), some (vR h2), some (vR h3), some (vI x4), some (vI x5), some (vI x6), some (vI x7), some (vI x8), some (vI x9), some (vI x10)] [] (sh, I, L) (0, 0) := by
  refine hK.1 144 [some (vR h0), some (vR 24), some (vR h2), some (vR h3), some (vI x4), some (vI x5), some (vI x6), some (vI x7), some (vI x8), some (vI x9), some (vI x10)] [] (sh, I, L) (0, 0) ?_
  refine hK.1 146 [some (vR h0), some (vR 24), some (vR h2), some (vR h3), some (vI x4), some (vI x5), some (vI x6), some (vI x7), some (vI x8), some (vI x9), some (vI x10)] [vI x10] (sh, I, L) (0, 0) ?_
  exact And.intro (n146) (And.intro (fun h => hK.2 [true, true, true, true, true, true, true, true, true, true, false] _ _ _ _ _ (kt h)) (fun h => hK.2 [true, true, true, true, false, false, false, true, true, true, false] _ _ _ _ _ (kf h)))
set_option maxRecDepth 4000 in
theorem B_X1_choice_149 {Q : oQ} {K : oK} (hK : oCl tb_X1_choice Q K) {sh : oS} (hs : Sh sh) {I : Nat → Nat → Int} {L : Nat → Nat → Int64} {h0 : Nat} {h2 : Nat} {h3 : Nat} {x7 : Int} {x8 : Int} {x9 : Int} (k : K 171 [some (vR h0), some (vR 24), some (vR h2), some (vR h3), some (vI ((8 * x7) + x9)), some (vI (I 24 4)), some (vI (I 24 5)), some (vI x7), some (vI x8), some (vI x9), none] [] (sh, I, L) (0, 0)) : K 149 [some (vR h0), some (vR 24), some (vR h2), some (vR h3), none, none, none, some (vI x7), some (vI x8), some (vI x9), none] [] (sh, I, L) (0, 0) := by
  refine hK.1 149 [some (vR h0), some (vR 24), some (vR h2), some (vR h3), none, none, none, some (vI x7), some (vI x8), some (vI x9), none] [] (sh, I, L) (0, 0) ?_
  refine hK.1 151 [some (vR h0), some (vR 24), some (vR h2), some (vR h3), none, none, none, some (vI x7), some (vI x8), some (vI x9), none] [vI 8] (sh, I, L) (0, 0) ?_
  refine hK.1 153 [some (vR h0), some (vR 24), some (vR h2), some (vR h3), none, none, none, some (vI x7), some (vI x8), some (vI x9), none] [vI x7, vI 8] (sh, I, L) (0, 0) ?_
  refine hK.1 154 [some (vR h0), some (vR 24), some (vR h2), some (vR h3), none, none, none, some (vI x7), some (vI x8), some (vI x9), none] [vI (8 * x7)] (sh, I, L) (0, 0) ?_
  refine hK.1 156 [some (vR h0), some (vR 24), some (vR h2), some (vR h3), none, none, none, some (vI x7), some (vI x8), some (vI x9), none] [vI x9, vI (8 * x7)] (sh, I, L) (0, 0) ?_
  refine hK.1 157 [some (vR h0), some (vR 24), some (vR h2), some (vR h3), none, none, none, some (vI x7), some (vI x8), some (vI x9), none] [vI ((8 * x7) + x9)] (sh, I, L) (0, 0) ?_
  refine hK.1 159 [some (vR h0), some (vR 24), some (vR h2), some (vR h3), some (vI ((8 * x7) + x9)), none, none, some (vI x7), some (vI x8), some (vI x9), none] [] (sh, I, L) (0, 0) ?_
  refine hK.1 160 [some (vR h0), some (vR 24), some (vR h2), some (vR h3), some (vI ((8 * x7) + x9)), none, none, some (vI x7), some (vI x8), some (vI x9), none] [vR 24] (sh, I, L) (0, 0) ?_
  refine And.intro (mem1 (sk_24 hs)) ?_
  refine hK.1 163 [some (vR h0), some (vR 24), some (vR h2), some (vR h3), some (vI ((8 * x7) + x9)), none, none, some (vI x7), some (vI x8), some (vI x9), none] [vI (I 24 4)] (sh, I, L) (0, 0) ?_
  refine hK.1 165 [some (vR h0), some (vR 24), some (vR h2), some (vR h3), some (vI ((8 * x7) + x9)), some (vI (I 24 4)), none, some (vI x7), some (vI x8), some (vI x9), none] [] (sh, I, L) (0, 0) ?_
  refine hK.1 166 [some (vR h0), some (vR 24), some (vR h2), some (vR h3), some (vI ((8 * x7) + x9)), some (vI (I 24 4)), none, some (vI x7), some (vI x8), some (vI x9), none] [vR 24] (sh, I, L) (0, 0) ?_
  refine And.intro (mem1 (sk_24 hs)) ?_
  refine hK.1 169 [some (vR h0), some (vR 24), some (vR h2), some (vR h3), some (vI ((8 * x7) + x9)), some (vI (I 24 4)), none, some (vI x7), some (vI x8), some (vI x9), none] [vI (I 24 5)] (sh, I, L) (0, 0) ?_
  exact k
set_option maxRecDepth 4000 in
theorem B_X1_choice_171 {Q : oQ} {K : oK} (hK : oCl tb_X1_choice Q K) {sh : oS} {I : Nat → Nat → Int} {L : Nat → Nat → Int64} {h0 : Nat} {h2 : Nat} {h3 : Nat} {x4 : Int} {x5 : Int} {x6 : Int} {x7 : Int} {x8 : Int} {x9 : Int} (k : K 47 [some (vR h0), some (vR 24), some (vR h2), some (vR h3), some (vI x4), some (vI x5), some (vI x6), some (vI x7), some (vI x8), some (vI (x9 + 1)), none] [] (sh, I, L) (0, 0)) : K 171 [some (vR h0), some (vR 24), some (vR h2), some (vR h3), some (vI x4), some (vI x5), some (vI x6), some (vI x7), some (vI x8), some (vI x9), none] [] (sh, I, L) (0, 0) := by
  refine hK.1 171 [some (vR h0), some (vR 24), some (vR h2), some (vR h3), some (vI x4), some (vI x5), some (vI x6), some (vI x7), some (vI x8), some (vI x9), none] [] (sh, I, L) (0, 0) ?_
  refine hK.1 174 [some (vR h0), some (vR 24), some (vR h2), some (vR h3), some (vI x4), some (vI x5), some (vI x6), some (vI x7), some (vI x8), some (vI (x9 + 1)), none] [] (sh, I, L) (0, 0) ?_
  exact k
set_option maxRecDepth 4000 in
theorem B_X1_choice_177 {Q : oQ} {K : oK} (hK : oCl tb_X1_choice Q K) {sh : oS} {I : Nat → Nat → Int} {L : Nat → Nat → Int64} {h0 : Nat} {h2 : Nat} {h3 : Nat} {x4 : Int} {x5 : Int} {x6 : Int} {x7 : Int} (k : K 13 [some (vR h0), some (vR 24), some (vR h2), some (vR h3), some (vI x4), some (vI x5), some (vI x6), some (vI (x7 + 1)), none, none, none] [] (sh, I, L) (0, 0)) : K 177 [some (vR h0), some (vR 24), some (vR h2), some (vR h3), some (vI x4), some (vI x5), some (vI x6), some (vI x7), none, none, none] [] (sh, I, L) (0, 0) := by
  refine hK.1 177 [some (vR h0), some (vR 24), some (vR h2), some (vR h3), some (vI x4), some (vI x5), some (vI x6), some (vI x7), none, none, none] [] (sh, I, L) (0, 0) ?_
  refine hK.1 180 [some (vR h0), some (vR 24), some (vR h2), some (vR h3), some (vI x4), some (vI x5), some (vI x6), some (vI (x7 + 1)), none, none, none] [] (sh, I, L) (0, 0) ?_
  exact k
set_option maxRecDepth 4000 in
theorem B_X1_choice_183 {Q : oQ} {K : oK} (hK : oCl tb_X1_choice Q K) {sh : oS} {I : Nat → Nat → Int} {L : Nat → Nat → Int64} {x4 : Int} (k : Q (some (vI x4)) (sh, I, L)) : K 183 [none, none, none, none, some (vI x4), none, none, none, none, none, none] [] (sh, I, L) (0, 0) := by
  refine hK.1 183 [none, none, none, none, some (vI x4), none, none, none, none, none, none] [] (sh, I, L) (0, 0) ?_
  refine hK.1 185 [none, none, none, none, some (vI x4), none, none, none, none, none, none] [vI x4] (sh, I, L) (0, 0) ?_
  exact And.intro ⟨by decide, by decide⟩ k
set_option maxRecDepth 4000 in
theorem B_X1_pitch_0 {Q : oQ} {K : oK} (hK : oCl tb_X1_pitch Q K) {sh : oS} {I : Nat → Nat → Int} {L : Nat → Nat → Int64} {h0 : Nat} {h2 : Nat} {h3 : Nat} {x4 : Int} (k : T_X1_choice [vR h0, vR 24, vR h2, vR h3] (sh, I, L) (fun r mm => K 11 [none, none, none, none, none] (r.toList ++ [vR h3, vR h2, vR 24, vR h0]) mm (0, 0))) (kh0_0 : sK sh h0 = 1) : K 0 [some (vR h0), some (vR 24), some (vR h2), some (vR h3), some (vI x4)] [] (sh, I, L) (0, 0) := by
  refine hK.1 0 [some (vR h0), some (vR 24), some (vR h2), some (vR h3), some (vI x4)] [] (sh, I, L) (0, 0) ?_
  refine hK.1 1 [some (vR h0), some (vR 24), some (vR h2), some (vR h3), some (vI x4)] [vR h0] (sh, I, L) (0, 0) ?_
  refine hK.1 2 [some (vR h0), some (vR 24), some (vR h2), some (vR h3), some (vI x4)] [vR 24, vR h0] (sh, I, L) (0, 0) ?_
  refine hK.1 3 [some (vR h0), some (vR 24), some (vR h2), some (vR h3), some (vI x4)] [vR h2, vR 24, vR h0] (sh, I, L) (0, 0) ?_
  refine hK.1 4 [some (vR h0), some (vR 24), some (vR h2), some (vR h3), some (vI x4)] [vR h3, vR h2, vR 24, vR h0] (sh, I, L) (0, 0) ?_
  refine hK.1 5 [some (vR h0), some (vR 24), some (vR h2), some (vR h3), some (vI x4)] [vR h0, vR h3, vR h2, vR 24, vR h0] (sh, I, L) (0, 0) ?_
  refine hK.1 6 [some (vR h0), some (vR 24), some (vR h2), some (vR h3), some (vI x4)] [vR 24, vR h0, vR h3, vR h2, vR 24, vR h0] (sh, I, L) (0, 0) ?_
  refine hK.1 7 [some (vR h0), some (vR 24), some (vR h2), some (vR h3), some (vI x4)] [vR h2, vR 24, vR h0, vR h3, vR h2, vR 24, vR h0] (sh, I, L) (0, 0) ?_
  refine hK.2 [false, false, false, false, false] _ _ _ _ _ ?_
  refine hK.1 8 [none, none, none, none, none] [vR h3, vR h2, vR 24, vR h0, vR h3, vR h2, vR 24, vR h0] (sh, I, L) (0, 0) ?_
  exact And.intro ⟨kh0_0, Nat.le_of_ble_eq_true rfl, Nat.le_of_ble_eq_true rfl, Nat.le_of_ble_eq_true rfl, Nat.le_of_ble_eq_true rfl⟩ k
set_option maxRecDepth 4000 in
theorem B_X1_pitch_11 {Q : oQ} {K : oK} (hK : oCl tb_X1_pitch Q K) {sh : oS} {I : Nat → Nat → Int} {L : Nat → Nat → Int64} {s0 : Nat} {s2 : Nat} {s3 : Nat} {s4 : Int} (k : T_X1_settle [vR s0, vR 24, vR s2, vR s3, vI s4] (sh, I, L) (fun r mm => K 14 [none, none, none, none, none] (r.toList ++ []) mm (0, 0))) (ks0_0 : sK sh s0 = 1) : K 11 [none, none, none, none, none] [vI s4, vR s3, vR s2, vR 24, vR s0] (sh, I, L) (0, 0) := by
  refine hK.1 11 [none, none, none, none, none] [vI s4, vR s3, vR s2, vR 24, vR s0] (sh, I, L) (0, 0) ?_
  exact And.intro ⟨ks0_0, Nat.le_of_ble_eq_true rfl, Nat.le_of_ble_eq_true rfl, Nat.le_of_ble_eq_true rfl, Nat.le_of_ble_eq_true rfl⟩ k
set_option maxRecDepth 4000 in
theorem B_X1_pitch_14 {Q : oQ} {K : oK} (hK : oCl tb_X1_pitch Q K) {sh : oS} {I : Nat → Nat → Int} {L : Nat → Nat → Int64}  (k : Q none (sh, I, L)) : K 14 [none, none, none, none, none] [] (sh, I, L) (0, 0) := by
  refine hK.1 14 [none, none, none, none, none] [] (sh, I, L) (0, 0) ?_
  exact And.intro rfl (And.intro ⟨by decide, by decide⟩ k)
set_option maxRecDepth 4000 in
theorem B_X3_dayLookedAt_0 {Q : oQ} {K : oK} (hK : oCl tb_X3_dayLookedAt Q K) {sh : oS} {I : Nat → Nat → Int} {L : Nat → Nat → Int64} {h0 : Nat} {x1 : Int} {h2 : Nat} (k : Q (some (vI x1)) (sh, I, L)) : K 0 [some (vR h0), some (vI x1), some (vR h2)] [] (sh, I, L) (0, 0) := by
  refine hK.1 0 [some (vR h0), some (vI x1), some (vR h2)] [] (sh, I, L) (0, 0) ?_
  refine hK.1 1 [some (vR h0), some (vI x1), some (vR h2)] [vI x1] (sh, I, L) (0, 0) ?_
  exact And.intro ⟨by decide, by decide⟩ k
set_option maxRecDepth 4000 in
theorem B_X5_dayLookedAt_0 {Q : oQ} {K : oK} (hK : oCl tb_X5_dayLookedAt Q K) {sh : oS} {I : Nat → Nat → Int} {L : Nat → Nat → Int64} {h0 : Nat} {x1 : Int} {h2 : Nat} {h2e h2p h2t : Nat} (kh0_0 : sK sh h0 = 5) (Ah2 : MarchAt sh h2 h2e h2p h2t) (n12a : inR (x1 + (I h0 1))) (n12b : inR ((I h2 0) - 1)) (k : Q (some (vI (fMin (x1 + (I h0 1)) ((I h2 0) - 1)))) (sh, I, L)) : K 0 [some (vR h0), some (vI x1), some (vR h2)] [] (sh, I, L) (0, 0) := by
  refine hK.1 0 [some (vR h0), some (vI x1), some (vR h2)] [] (sh, I, L) (0, 0) ?_
  refine hK.1 1 [some (vR h0), some (vI x1), some (vR h2)] [vI x1] (sh, I, L) (0, 0) ?_
  refine hK.1 2 [some (vR h0), some (vI x1), some (vR h2)] [vR h0, vI x1] (sh, I, L) (0, 0) ?_
  refine And.intro (mem1 kh0_0) ?_
  refine hK.1 5 [some (vR h0), some (vI x1), some (vR h2)] [vI (I h0 1), vI x1] (sh, I, L) (0, 0) ?_
  refine hK.1 6 [some (vR h0), some (vI x1), some (vR h2)] [vI (x1 + (I h0 1))] (sh, I, L) (0, 0) ?_
  refine hK.1 7 [some (vR h0), some (vI x1), some (vR h2)] [vR h2, vI (x1 + (I h0 1))] (sh, I, L) (0, 0) ?_
  refine And.intro (mem1 Ah2.1) ?_
  refine hK.1 10 [some (vR h0), some (vI x1), some (vR h2)] [vI (I h2 0), vI (x1 + (I h0 1))] (sh, I, L) (0, 0) ?_
  refine hK.1 11 [some (vR h0), some (vI x1), some (vR h2)] [vI 1, vI (I h2 0), vI (x1 + (I h0 1))] (sh, I, L) (0, 0) ?_
  refine hK.1 12 [some (vR h0), some (vI x1), some (vR h2)] [vI ((I h2 0) - 1), vI (x1 + (I h0 1))] (sh, I, L) (0, 0) ?_
  refine And.intro ⟨n12a, n12b, Nat.le_of_ble_eq_true rfl, Nat.le_of_ble_eq_true rfl, Nat.le_of_ble_eq_true rfl⟩ ?_
  refine hK.1 15 [some (vR h0), some (vI x1), some (vR h2)] [vI (fMin (x1 + (I h0 1)) ((I h2 0) - 1))] (sh, I, L) (0, 0) ?_
  exact And.intro ⟨by decide, by decide⟩ k
set_option maxRecDepth 4000 in
theorem B_X4_lastWood_0 {Q : oQ} {K : oK} (hK : oCl tb_X4_lastWood Q K) {sh : oS} {I : Nat → Nat → Int} {L : Nat → Nat → Int64} {h0 : Nat} {x1 : Int} {h0f h0w : Nat} (Ah0 : LandAt sh h0 h0f h0w) (n7a : inR x1) (n7b : inR ((I h0 0) - 1)) (k : K 11 [some (vR h0), none, some (vI (fMin x1 ((I h0 0) - 1)))] [] (sh, I, L) (0, 0)) : K 0 [some (vR h0), some (vI x1), none] [] (sh, I, L) (0, 0) := by
  refine hK.1 0 [some (vR h0), some (vI x1), none] [] (sh, I, L) (0, 0) ?_
  refine hK.1 1 [some (vR h0), some (vI x1), none] [vI x1] (sh, I, L) (0, 0) ?_
  refine hK.1 2 [some (vR h0), some (vI x1), none] [vR h0, vI x1] (sh, I, L) (0, 0) ?_
  refine And.intro (mem1 Ah0.1) ?_
  refine hK.1 5 [some (vR h0), some (vI x1), none] [vI (I h0 0), vI x1] (sh, I, L) (0, 0) ?_
  refine hK.1 6 [some (vR h0), some (vI x1), none] [vI 1, vI (I h0 0), vI x1] (sh, I, L) (0, 0) ?_
  refine hK.1 7 [some (vR h0), some (vI x1), none] [vI ((I h0 0) - 1), vI x1] (sh, I, L) (0, 0) ?_
  refine And.intro ⟨n7a, n7b, Nat.le_of_ble_eq_true rfl, Nat.le_of_ble_eq_true rfl, Nat.le_of_ble_eq_true rfl⟩ ?_
  refine hK.1 10 [some (vR h0), some (vI x1), none] [vI (fMin x1 ((I h0 0) - 1))] (sh, I, L) (0, 0) ?_
  refine hK.2 [true, false, true] _ _ _ _ _ ?_
  exact k
set_option maxRecDepth 4000 in
theorem B_X4_lastWood_11 {Q : oQ} {K : oK} (hK : oCl tb_X4_lastWood Q K) {sh : oS} {I : Nat → Nat → Int} {L : Nat → Nat → Int64} {h0 : Nat} {x2 : Int} (n12 : inR x2) (kt : x2 < 0 → K 33 [none, none, none] [] (sh, I, L) (0, 0)) (kf : ¬ (x2 < 0) → K 15 [some (vR h0), none, some (vI x2)] [] (sh, I, L) (0, 0)) : K 11 [some (vR h0), none, some (vI x2)] [] (sh, I, L) (0, 0) := by
  refine hK.1 11 [some (vR h0), none, some (vI x2)] [] (sh, I, L) (0, 0) ?_
  refine hK.1 12 [some (vR h0), none, some (vI x2)] [vI x2] (sh, I, L) (0, 0) ?_
  exact And.intro (n12) (And.intro (fun h => hK.2 [false, false, false] _ _ _ _ _ (kt h)) (fun h => hK.2 [true, false, true] _ _ _ _ _ (kf h)))
set_option maxRecDepth 4000 in
theorem B_X4_lastWood_15 {Q : oQ} {K : oK} (hK : oCl tb_X4_lastWood Q K) {sh : oS} {I : Nat → Nat → Int} {L : Nat → Nat → Int64} {h0 : Nat} {x2 : Int} {h0f h0w : Nat} (Ah0 : LandAt sh h0 h0f h0w) (b20 : 0 ≤ x2 ∧ x2 < 8) (n22a : inR (I h0w (x2.toNat))) (kt : ¬ I h0w (x2.toNat) = 1 → K 27 [some (vR h0), none, some (vI x2)] [] (sh, I, L) (0, 0)) (kf : ¬ (¬ I h0w (x2.toNat) = 1) → K 25 [none, none, some (vI x2)] [] (sh, I, L) (0, 0)) : K 15 [some (vR h0), none, some (vI x2)] [] (sh, I, L) (0, 0) := by
  refine hK.1 15 [some (vR h0), none, some (vI x2)] [] (sh, I, L) (0, 0) ?_
  refine hK.1 16 [some (vR h0), none, some (vI x2)] [vR h0] (sh, I, L) (0, 0) ?_
  refine And.intro (mem1 Ah0.1) (Exists.intro h0w (And.intro Ah0.2.2.1 ?_))
  refine hK.1 19 [some (vR h0), none, some (vI x2)] [vR h0w] (sh, I, L) (0, 0) ?_
  refine hK.1 20 [some (vR h0), none, some (vI x2)] [vI x2, vR h0w] (sh, I, L) (0, 0) ?_
  refine And.intro (And.intro (Ah0.2.2.2.2.1) (ixL (Ah0.2.2.2.2.2) b20)) ?_
  refine hK.1 21 [some (vR h0), none, some (vI x2)] [vI (I h0w (x2.toNat))] (sh, I, L) (0, 0) ?_
  refine hK.1 22 [some (vR h0), none, some (vI x2)] [vI 1, vI (I h0w (x2.toNat))] (sh, I, L) (0, 0) ?_
  exact And.intro (And.intro n22a ⟨by decide, by decide⟩) (And.intro (fun h => hK.2 [true, false, true] _ _ _ _ _ (kt h)) (fun h => hK.2 [false, false, true] _ _ _ _ _ (kf h)))
set_option maxRecDepth 4000 in
theorem B_X4_lastWood_25 {Q : oQ} {K : oK} (hK : oCl tb_X4_lastWood Q K) {sh : oS} {I : Nat → Nat → Int} {L : Nat → Nat → Int64} {x2 : Int} (k : Q (some (vI x2)) (sh, I, L)) : K 25 [none, none, some (vI x2)] [] (sh, I, L) (0, 0) := by
  refine hK.1 25 [none, none, some (vI x2)] [] (sh, I, L) (0, 0) ?_
  refine hK.1 26 [none, none, some (vI x2)] [vI x2] (sh, I, L) (0, 0) ?_
  exact And.intro ⟨by decide, by decide⟩ k
set_option maxRecDepth 4000 in
theorem B_X4_lastWood_27 {Q : oQ} {K : oK} (hK : oCl tb_X4_lastWood Q K) {sh : oS} {I : Nat → Nat → Int} {L : Nat → Nat → Int64} {h0 : Nat} {x2 : Int} (k : K 11 [some (vR h0), none, some (vI (x2 + (-1)))] [] (sh, I, L) (0, 0)) : K 27 [some (vR h0), none, some (vI x2)] [] (sh, I, L) (0, 0) := by
  refine hK.1 27 [some (vR h0), none, some (vI x2)] [] (sh, I, L) (0, 0) ?_
  refine hK.1 30 [some (vR h0), none, some (vI (x2 + (-1)))] [] (sh, I, L) (0, 0) ?_
  exact k
set_option maxRecDepth 4000 in
theorem B_X4_lastWood_33 {Q : oQ} {K : oK} (hK : oCl tb_X4_lastWood Q K) {sh : oS} {I : Nat → Nat → Int} {L : Nat → Nat → Int64}  (k : Q (some (vI (-1))) (sh, I, L)) : K 33 [none, none, none] [] (sh, I, L) (0, 0) := by
  refine hK.1 33 [none, none, none] [] (sh, I, L) (0, 0) ?_
  refine hK.1 34 [none, none, none] [vI (-1)] (sh, I, L) (0, 0) ?_
  exact And.intro ⟨by decide, by decide⟩ k
set_option maxRecDepth 4000 in
theorem B_X3_pitch_0 {Q : oQ} {K : oK} (hK : oCl tb_X3_pitch Q K) {sh : oS} (hs : Sh sh) {I : Nat → Nat → Int} {L : Nat → Nat → Int64} {h0 : Nat} {h2 : Nat} {h3 : Nat} {x4 : Int} {h2f h2w : Nat} {h3e h3p h3t : Nat} (Ah2 : LandAt sh h2 h2f h2w) (k : T_X6_wayOn [vR h3] (sh, (u2 I 25 3 0), L) (fun r mm => K 17 [some (vR h0), some (vR 24), some (vR h2), some (vR h3), some (vI x4), none, none, none, none, none] (r.toList ++ [vI ((u2 I 25 3 0) h2 0), vR h3]) mm (0, 0))) (Ah3 : MarchAt sh h3 h3e h3p h3t) : K 0 [some (vR h0), some (vR 24), some (vR h2), some (vR h3), some (vI x4), none, none, none, none, none] [] (sh, I, L) (0, 0) := by
  refine hK.1 0 [some (vR h0), some (vR 24), some (vR h2), some (vR h3), some (vI x4), none, none, none, none, none] [] (sh, I, L) (0, 0) ?_
  refine hK.1 1 [some (vR h0), some (vR 24), some (vR h2), some (vR h3), some (vI x4), none, none, none, none, none] [vR 24] (sh, I, L) (0, 0) ?_
  refine And.intro (mem1 (sk_24 hs)) (Exists.intro 25 (And.intro (sr_24_0 hs) ?_))
  refine hK.1 4 [some (vR h0), some (vR 24), some (vR h2), some (vR h3), some (vI x4), none, none, none, none, none] [vR 25] (sh, I, L) (0, 0) ?_
  refine hK.1 5 [some (vR h0), some (vR 24), some (vR h2), some (vR h3), some (vI x4), none, none, none, none, none] [vI 0, vR 25] (sh, I, L) (0, 0) ?_
  refine And.intro (mem1 (sk_25 hs)) ?_
  refine hK.1 8 [some (vR h0), some (vR 24), some (vR h2), some (vR h3), some (vI x4), none, none, none, none, none] [] (sh, (u2 I 25 3 0), L) (0, 0) ?_
  refine hK.1 9 [some (vR h0), some (vR 24), some (vR h2), some (vR h3), some (vI x4), none, none, none, none, none] [vR h3] (sh, (u2 I 25 3 0), L) (0, 0) ?_
  refine hK.1 10 [some (vR h0), some (vR 24), some (vR h2), some (vR h3), some (vI x4), none, none, none, none, none] [vR h2, vR h3] (sh, (u2 I 25 3 0), L) (0, 0) ?_
  refine And.intro (mem1 Ah2.1) ?_
  refine hK.1 13 [some (vR h0), some (vR 24), some (vR h2), some (vR h3), some (vI x4), none, none, none, none, none] [vI ((u2 I 25 3 0) h2 0), vR h3] (sh, (u2 I 25 3 0), L) (0, 0) ?_
  refine hK.1 14 [some (vR h0), some (vR 24), some (vR h2), some (vR h3), some (vI x4), none, none, none, none, none] [vR h3, vI ((u2 I 25 3 0) h2 0), vR h3] (sh, (u2 I 25 3 0), L) (0, 0) ?_
  exact And.intro ⟨Ah3.1, Nat.le_of_ble_eq_true rfl, Nat.le_of_ble_eq_true rfl, Nat.le_of_ble_eq_true rfl, Nat.le_of_ble_eq_true rfl⟩ k
set_option maxRecDepth 4000 in
theorem B_X3_pitch_17 {Q : oQ} {K : oK} (hK : oCl tb_X3_pitch Q K) {sh : oS} (hs : Sh sh) {I : Nat → Nat → Int} {L : Nat → Nat → Int64} {h0 : Nat} {h2 : Nat} {h3 : Nat} {x4 : Int} {s0 : Nat} {s1 : Int} {s2 : Int} {s0e s0p s0t : Nat} (k : T_X6_walk [vR s0, vI s1, vI s2, vR 29] (sh, I, L) (fun r mm => K 24 [some (vR h0), some (vR 24), some (vR h2), some (vR h3), some (vI x4), none, none, none, none, none] (r.toList ++ []) mm (0, 0))) (As0 : MarchAt sh s0 s0e s0p s0t) : K 17 [some (vR h0), some (vR 24), some (vR h2), some (vR h3), some (vI x4), none, none, none, none, none] [vI s2, vI s1, vR s0] (sh, I, L) (0, 0) := by
  refine hK.1 17 [some (vR h0), some (vR 24), some (vR h2), some (vR h3), some (vI x4), none, none, none, none, none] [vI s2, vI s1, vR s0] (sh, I, L) (0, 0) ?_
  refine hK.1 18 [some (vR h0), some (vR 24), some (vR h2), some (vR h3), some (vI x4), none, none, none, none, none] [vR 24, vI s2, vI s1, vR s0] (sh, I, L) (0, 0) ?_
  refine And.intro (mem1 (sk_24 hs)) (Exists.intro 29 (And.intro (sr_24_1 hs) ?_))
  refine hK.1 21 [some (vR h0), some (vR 24), some (vR h2), some (vR h3), some (vI x4), none, none, none, none, none] [vR 29, vI s2, vI s1, vR s0] (sh, I, L) (0, 0) ?_
  exact And.intro ⟨As0.1, Nat.le_of_ble_eq_true rfl, Nat.le_of_ble_eq_true rfl, Nat.le_of_ble_eq_true rfl, Nat.le_of_ble_eq_true rfl⟩ k
set_option maxRecDepth 4000 in
theorem B_X3_pitch_24 {Q : oQ} {K : oK} (hK : oCl tb_X3_pitch Q K) {sh : oS} {I : Nat → Nat → Int} {L : Nat → Nat → Int64} {h0 : Nat} {h2 : Nat} {h3 : Nat} {x4 : Int} (k : K 33 [some (vR h0), some (vR 24), some (vR h2), some (vR h3), some (vI x4), some (vI 0), some (vI (-1)), some (vI 0), none, none] [] (sh, I, L) (0, 0)) : K 24 [some (vR h0), some (vR 24), some (vR h2), some (vR h3), some (vI x4), none, none, none, none, none] [] (sh, I, L) (0, 0) := by
  refine hK.1 24 [some (vR h0), some (vR 24), some (vR h2), some (vR h3), some (vI x4), none, none, none, none, none] [] (sh, I, L) (0, 0) ?_
  refine hK.1 25 [some (vR h0), some (vR 24), some (vR h2), some (vR h3), some (vI x4), none, none, none, none, none] [vI 0] (sh, I, L) (0, 0) ?_
  refine hK.1 27 [some (vR h0), some (vR 24), some (vR h2), some (vR h3), some (vI x4), some (vI 0), none, none, none, none] [] (sh, I, L) (0, 0) ?_
  refine hK.1 28 [some (vR h0), some (vR 24), some (vR h2), some (vR h3), some (vI x4), some (vI 0), none, none, none, none] [vI (-1)] (sh, I, L) (0, 0) ?_
  refine hK.1 30 [some (vR h0), some (vR 24), some (vR h2), some (vR h3), some (vI x4), some (vI 0), some (vI (-1)), none, none, none] [] (sh, I, L) (0, 0) ?_
  refine hK.1 31 [some (vR h0), some (vR 24), some (vR h2), some (vR h3), some (vI x4), some (vI 0), some (vI (-1)), none, none, none] [vI 0] (sh, I, L) (0, 0) ?_
  exact k
set_option maxRecDepth 4000 in
theorem B_X3_pitch_33 {Q : oQ} {K : oK} (hK : oCl tb_X3_pitch Q K) {sh : oS} {I : Nat → Nat → Int} {L : Nat → Nat → Int64} {h0 : Nat} {h2 : Nat} {h3 : Nat} {x4 : Int} {x5 : Int} {x6 : Int} {x7 : Int} (n37a : inR x7) (kt : 10 ≤ x7 → K 159 [none, none, none, none, none, none, none, none, none, none] [] (sh, I, L) (0, 0)) (kf : ¬ (10 ≤ x7) → K 40 [some (vR h0), some (vR 24), some (vR h2), some (vR h3), some (vI x4), some (vI x5), some (vI x6), some (vI x7), none, none] [] (sh, I, L) (0, 0)) : K 33 [some (vR h0), some (vR 24), some (vR h2), some (vR h3), some (vI x4), some (vI x5), some (vI x6), some (vI x7), none, none] [] (sh, I, L) (0, 0) := by
  refine hK.1 33 [some (vR h0), some (vR 24), some (vR h2), some (vR h3), some (vI x4), some (vI x5), some (vI x6), some (vI x7), none, none] [] (sh, I, L) (0, 0) ?_
  refine hK.1 35 [some (vR h0), some (vR 24), some (vR h2), some (vR h3), some (vI x4), some (vI x5), some (vI x6), some (vI x7), none, none] [vI x7] (sh, I, L) (0, 0) ?_
  refine hK.1 37 [some (vR h0), some (vR 24), some (vR h2), some (vR h3), some (vI x4), some (vI x5), some (vI x6), some (vI x7), none, none] [vI 10, vI x7] (sh, I, L) (0, 0) ?_
  exact And.intro (And.intro n37a ⟨by decide, by decide⟩) (And.intro (fun h => hK.2 [false, false, false, false, false, false, false, false, false, false] _ _ _ _ _ (kt h)) (fun h => hK.2 [true, true, true, true, true, true, true, true, false, false] _ _ _ _ _ (kf h)))
set_option maxRecDepth 4000 in
theorem B_X3_pitch_40 {Q : oQ} {K : oK} (hK : oCl tb_X3_pitch Q K) {sh : oS} {I : Nat → Nat → Int} {L : Nat → Nat → Int64} {h0 : Nat} {h2 : Nat} {h3 : Nat} {x4 : Int} {x5 : Int} {x6 : Int} {x7 : Int} {h3e h3p h3t : Nat} (Ah3 : MarchAt sh h3 h3e h3p h3t) (n46a : inR x5) (n46b : inR (I h3 0)) (kt : I h3 0 ≤ x5 → K 159 [none, none, none, none, none, none, none, none, none, none] [] (sh, I, L) (0, 0)) (kf : ¬ (I h3 0 ≤ x5) → K 49 [some (vR h0), some (vR 24), some (vR h2), some (vR h3), some (vI x4), some (vI x5), some (vI x6), some (vI x7), none, none] [] (sh, I, L) (0, 0)) : K 40 [some (vR h0), some (vR 24), some (vR h2), some (vR h3), some (vI x4), some (vI x5), some (vI x6), some (vI x7), none, none] [] (sh, I, L) (0, 0) := by
  refine hK.1 40 [some (vR h0), some (vR 24), some (vR h2), some (vR h3), some (vI x4), some (vI x5), some (vI x6), some (vI x7), none, none] [] (sh, I, L) (0, 0) ?_
  refine hK.1 42 [some (vR h0), some (vR 24), some (vR h2), some (vR h3), some (vI x4), some (vI x5), some (vI x6), some (vI x7), none, none] [vI x5] (sh, I, L) (0, 0) ?_
  refine hK.1 43 [some (vR h0), some (vR 24), some (vR h2), some (vR h3), some (vI x4), some (vI x5), some (vI x6), some (vI x7), none, none] [vR h3, vI x5] (sh, I, L) (0, 0) ?_
  refine And.intro (mem1 Ah3.1) ?_
  refine hK.1 46 [some (vR h0), some (vR 24), some (vR h2), some (vR h3), some (vI x4), some (vI x5), some (vI x6), some (vI x7), none, none] [vI (I h3 0), vI x5] (sh, I, L) (0, 0) ?_
  exact And.intro (And.intro n46a n46b) (And.intro (fun h => hK.2 [false, false, false, false, false, false, false, false, false, false] _ _ _ _ _ (kt h)) (fun h => hK.2 [true, true, true, true, true, true, true, true, false, false] _ _ _ _ _ (kf h)))
set_option maxRecDepth 4000 in
theorem B_X3_pitch_49 {Q : oQ} {K : oK} (hK : oCl tb_X3_pitch Q K) {sh : oS} (hs : Sh sh) {I : Nat → Nat → Int} {L : Nat → Nat → Int64} {h0 : Nat} {h2 : Nat} {h3 : Nat} {x4 : Int} {x5 : Int} {x6 : Int} {x7 : Int} (k3 : sK sh h0 = 3 → T_X3_dayLookedAt [vR h0, vI x5, vR h3] (sh, I, L) (fun r mm => K 61 [some (vR h0), some (vR 24), some (vR h2), some (vR h3), some (vI x4), some (vI x5), some (vI x6), some (vI x7), none, none] (r.toList ++ [vR 29, vR h2]) mm (0, 0))) (k5 : sK sh h0 = 5 → T_X5_dayLookedAt [vR h0, vI x5, vR h3] (sh, I, L) (fun r mm => K 61 [some (vR h0), some (vR 24), some (vR h2), some (vR h3), some (vI x4), some (vI x5), some (vI x6), some (vI x7), none, none] (r.toList ++ [vR 29, vR h2]) mm (0, 0))) (kb : sK sh h0 ∈ [3, 5]) : K 49 [some (vR h0), some (vR 24), some (vR h2), some (vR h3), some (vI x4), some (vI x5), some (vI x6), some (vI x7), none, none] [] (sh, I, L) (0, 0) := by
  refine hK.1 49 [some (vR h0), some (vR 24), some (vR h2), some (vR h3), some (vI x4), some (vI x5), some (vI x6), some (vI x7), none, none] [] (sh, I, L) (0, 0) ?_
  refine hK.1 50 [some (vR h0), some (vR 24), some (vR h2), some (vR h3), some (vI x4), some (vI x5), some (vI x6), some (vI x7), none, none] [vR h2] (sh, I, L) (0, 0) ?_
  refine hK.1 51 [some (vR h0), some (vR 24), some (vR h2), some (vR h3), some (vI x4), some (vI x5), some (vI x6), some (vI x7), none, none] [vR 24, vR h2] (sh, I, L) (0, 0) ?_
  refine And.intro (mem1 (sk_24 hs)) (Exists.intro 29 (And.intro (sr_24_1 hs) ?_))
  refine hK.1 54 [some (vR h0), some (vR 24), some (vR h2), some (vR h3), some (vI x4), some (vI x5), some (vI x6), some (vI x7), none, none] [vR 29, vR h2] (sh, I, L) (0, 0) ?_
  refine hK.1 55 [some (vR h0), some (vR 24), some (vR h2), some (vR h3), some (vI x4), some (vI x5), some (vI x6), some (vI x7), none, none] [vR h0, vR 29, vR h2] (sh, I, L) (0, 0) ?_
  refine hK.1 57 [some (vR h0), some (vR 24), some (vR h2), some (vR h3), some (vI x4), some (vI x5), some (vI x6), some (vI x7), none, none] [vI x5, vR h0, vR 29, vR h2] (sh, I, L) (0, 0) ?_
  refine hK.1 58 [some (vR h0), some (vR 24), some (vR h2), some (vR h3), some (vI x4), some (vI x5), some (vI x6), some (vI x7), none, none] [vR h3, vI x5, vR h0, vR 29, vR h2] (sh, I, L) (0, 0) ?_
  refine And.intro ⟨Nat.le_of_ble_eq_true rfl, Nat.le_of_ble_eq_true rfl, Nat.le_of_ble_eq_true rfl, Nat.le_of_ble_eq_true rfl⟩ ?_
  simp only [List.mem_cons, List.not_mem_nil, or_false] at kb
  rcases kb with kb | kb
  · exact ⟨(3, T_X3_dayLookedAt), List.mem_of_getElem? (i := 0) rfl, kb, k3 kb⟩
  · exact ⟨(5, T_X5_dayLookedAt), List.mem_of_getElem? (i := 1) rfl, kb, k5 kb⟩
set_option maxRecDepth 4000 in
theorem B_X3_pitch_61 {Q : oQ} {K : oK} (hK : oCl tb_X3_pitch Q K) {sh : oS} (hs : Sh sh) {I : Nat → Nat → Int} {L : Nat → Nat → Int64} {h0 : Nat} {h2 : Nat} {h3 : Nat} {x4 : Int} {x5 : Int} {x6 : Int} {x7 : Int} {s0 : Nat} {s2 : Int} {s0f s0w : Nat} (b61 : 0 ≤ s2 ∧ s2 < 10) (k : T_X4_lastWood [vR s0, vI (I 29 (s2.toNat))] (sh, I, L) (fun r mm => K 65 [some (vR h0), some (vR 24), some (vR h2), some (vR h3), some (vI x4), some (vI x5), some (vI x6), some (vI x7), none, none] (r.toList ++ []) mm (0, 0))) (As0 : LandAt sh s0 s0f s0w) : K 61 [some (vR h0), some (vR 24), some (vR h2), some (vR h3), some (vI x4), some (vI x5), some (vI x6), some (vI x7), none, none] [vI s2, vR 29, vR s0] (sh, I, L) (0, 0) := by
  refine hK.1 61 [some (vR h0), some (vR 24), some (vR h2), some (vR h3), some (vI x4), some (vI x5), some (vI x6), some (vI x7), none, none] [vI s2, vR 29, vR s0] (sh, I, L) (0, 0) ?_
  refine And.intro (And.intro (sk_29 hs) (ixL (sl_29 hs) b61)) ?_
  refine hK.1 62 [some (vR h0), some (vR 24), some (vR h2), some (vR h3), some (vI x4), some (vI x5), some (vI x6), some (vI x7), none, none] [vI (I 29 (s2.toNat)), vR s0] (sh, I, L) (0, 0) ?_
  exact And.intro ⟨As0.1, Nat.le_of_ble_eq_true rfl, Nat.le_of_ble_eq_true rfl, Nat.le_of_ble_eq_true rfl, Nat.le_of_ble_eq_true rfl⟩ k
set_option maxRecDepth 4000 in
theorem B_X3_pitch_65 {Q : oQ} {K : oK} (hK : oCl tb_X3_pitch Q K) {sh : oS} {I : Nat → Nat → Int} {L : Nat → Nat → Int64} {h0 : Nat} {h2 : Nat} {h3 : Nat} {x4 : Int} {x5 : Int} {x6 : Int} {x7 : Int} {s0 : Int} (n70a : inR s0) (kt : ¬ s0 = (-1) → K 79 [some (vR h0), some (vR 24), some (vR h2), some (vR h3), some (vI x4), some (vI x5), some (vI x6), some (vI x7), some (vI s0), none] [] (sh, I, L) (0, 0)) (kf : ¬ (¬ s0 = (-1)) → K 73 [some (vR h0), some (vR 24), some (vR h2), some (vR h3), some (vI x4), some (vI x5), some (vI x6), some (vI x7), none, none] [] (sh, I, L) (0, 0)) : K 65 [some (vR h0), some (vR 24), some (vR h2), some (vR h3), some (vI x4), some (vI x5), some (vI x6), some (vI x7), none, none] [vI s0] (sh, I, L) (0, 0) := by
  refine hK.1 65 [some (vR h0), some (vR 24), some (vR h2), some (vR h3), some (vI x4), some (vI x5), some (vI x6), some (vI x7), none, none] [vI s0] (sh, I, L) (0, 0) ?_
  refine hK.1 67 [some (vR h0), some (vR 24), some (vR h2), some (vR h3), some (vI x4), some (vI x5), some (vI x6), some (vI x7), some (vI s0), none] [] (sh, I, L) (0, 0) ?_
  refine hK.1 69 [some (vR h0), some (vR 24), some (vR h2), some (vR h3), some (vI x4), some (vI x5), some (vI x6), some (vI x7), some (vI s0), none] [vI s0] (sh, I, L) (0, 0) ?_
  refine hK.1 70 [some (vR h0), some (vR 24), some (vR h2), some (vR h3), some (vI x4), some (vI x5), some (vI x6), some (vI x7), some (vI s0), none] [vI (-1), vI s0] (sh, I, L) (0, 0) ?_
  exact And.intro (And.intro n70a ⟨by decide, by decide⟩) (And.intro (fun h => hK.2 [true, true, true, true, true, true, true, true, true, false] _ _ _ _ _ (kt h)) (fun h => hK.2 [true, true, true, true, true, true, true, true, false, false] _ _ _ _ _ (kf h)))
set_option maxRecDepth 4000 in
theorem B_X3_pitch_73 {Q : oQ} {K : oK} (hK : oCl tb_X3_pitch Q K) {sh : oS} {I : Nat → Nat → Int} {L : Nat → Nat → Int64} {h0 : Nat} {h2 : Nat} {h3 : Nat} {x4 : Int} {x5 : Int} {x6 : Int} {x7 : Int} (k : K 153 [some (vR h0), some (vR 24), some (vR h2), some (vR h3), some (vI x4), some (vI (x5 + 1)), some (vI x6), some (vI x7), none, none] [] (sh, I, L) (0, 0)) : K 73 [some (vR h0), some (vR 24), some (vR h2), some (vR h3), some (vI x4), some (vI x5), some (vI x6), some (vI x7), none, none] [] (sh, I, L) (0, 0) := by
  refine hK.1 73 [some (vR h0), some (vR 24), some (vR h2), some (vR h3), some (vI x4), some (vI x5), some (vI x6), some (vI x7), none, none] [] (sh, I, L) (0, 0) ?_
  refine hK.1 76 [some (vR h0), some (vR 24), some (vR h2), some (vR h3), some (vI x4), some (vI (x5 + 1)), some (vI x6), some (vI x7), none, none] [] (sh, I, L) (0, 0) ?_
  exact k
set_option maxRecDepth 4000 in
theorem B_X3_pitch_79 {Q : oQ} {K : oK} (hK : oCl tb_X3_pitch Q K) {sh : oS} {I : Nat → Nat → Int} {L : Nat → Nat → Int64} {h0 : Nat} {h2 : Nat} {h3 : Nat} {x4 : Int} {x5 : Int} {x6 : Int} {x7 : Int} {x8 : Int} (n84a : inR x6) (kt : ¬ x6 = (-1) → K 91 [some (vR h0), some (vR 24), some (vR h2), some (vR h3), some (vI x4), none, some (vI x6), some (vI x7), some (vI x8), none] [vI x5] (sh, I, L) (0, 0)) (kf : ¬ (¬ x6 = (-1)) → K 87 [some (vR h0), some (vR 24), some (vR h2), some (vR h3), some (vI x4), none, none, some (vI x7), some (vI x8), none] [vI x5] (sh, I, L) (0, 0)) : K 79 [some (vR h0), some (vR 24), some (vR h2), some (vR h3), some (vI x4), some (vI x5), some (vI x6), some (vI x7), some (vI x8), none] [] (sh, I, L) (0, 0) := by
  refine hK.1 79 [some (vR h0), some (vR 24), some (vR h2), some (vR h3), some (vI x4), some (vI x5), some (vI x6), some (vI x7), some (vI x8), none] [] (sh, I, L) (0, 0) ?_
  refine hK.1 81 [some (vR h0), some (vR 24), some (vR h2), some (vR h3), some (vI x4), some (vI x5), some (vI x6), some (vI x7), some (vI x8), none] [vI x5] (sh, I, L) (0, 0) ?_
  refine hK.1 83 [some (vR h0), some (vR 24), some (vR h2), some (vR h3), some (vI x4), some (vI x5), some (vI x6), some (vI x7), some (vI x8), none] [vI x6, vI x5] (sh, I, L) (0, 0) ?_
  refine hK.1 84 [some (vR h0), some (vR 24), some (vR h2), some (vR h3), some (vI x4), some (vI x5), some (vI x6), some (vI x7), some (vI x8), none] [vI (-1), vI x6, vI x5] (sh, I, L) (0, 0) ?_
  exact And.intro (And.intro n84a ⟨by decide, by decide⟩) (And.intro (fun h => hK.2 [true, true, true, true, true, false, true, true, true, false] _ _ _ _ _ (kt h)) (fun h => hK.2 [true, true, true, true, true, false, false, true, true, false] _ _ _ _ _ (kf h)))
set_option maxRecDepth 4000 in
theorem B_X3_pitch_87 {Q : oQ} {K : oK} (hK : oCl tb_X3_pitch Q K) {sh : oS} {I : Nat → Nat → Int} {L : Nat → Nat → Int64} {h0 : Nat} {h2 : Nat} {h3 : Nat} {x4 : Int} {x7 : Int} {x8 : Int} {s0 : Int} (k : K 99 [some (vR h0), some (vR 24), some (vR h2), some (vR h3), some (vI x4), none, none, some (vI x7), some (vI x8), none] [vI 0, vI s0] (sh, I, L) (0, 0)) : K 87 [some (vR h0), some (vR 24), some (vR h2), some (vR h3), some (vI x4), none, none, some (vI x7), some (vI x8), none] [vI s0] (sh, I, L) (0, 0) := by
  refine hK.1 87 [some (vR h0), some (vR 24), some (vR h2), some (vR h3), some (vI x4), none, none, some (vI x7), some (vI x8), none] [vI s0] (sh, I, L) (0, 0) ?_
  refine hK.1 88 [some (vR h0), some (vR 24), some (vR h2), some (vR h3), some (vI x4), none, none, some (vI x7), some (vI x8), none] [vI 0, vI s0] (sh, I, L) (0, 0) ?_
  exact k
set_option maxRecDepth 4000 in
theorem B_X3_pitch_91 {Q : oQ} {K : oK} (hK : oCl tb_X3_pitch Q K) {sh : oS} {I : Nat → Nat → Int} {L : Nat → Nat → Int64} {h0 : Nat} {h2 : Nat} {h3 : Nat} {x4 : Int} {x6 : Int} {x7 : Int} {x8 : Int} {s0 : Int} (n96 : inR (x8 - x6) ∧ -2147483648 < x8 - x6) (k : K 99 [some (vR h0), some (vR 24), some (vR h2), some (vR h3), some (vI x4), none, none, some (vI x7), some (vI x8), none] [vI (fAbs (x8 - x6)), vI s0] (sh, I, L) (0, 0)) : K 91 [some (vR h0), some (vR 24), some (vR h2), some (vR h3), some (vI x4), none, some (vI x6), some (vI x7), some (vI x8), none] [vI s0] (sh, I, L) (0, 0) := by
  refine hK.1 91 [some (vR h0), some (vR 24), some (vR h2), some (vR h3), some (vI x4), none, some (vI x6), some (vI x7), some (vI x8), none] [vI s0] (sh, I, L) (0, 0) ?_
  refine hK.1 93 [some (vR h0), some (vR 24), some (vR h2), some (vR h3), some (vI x4), none, some (vI x6), some (vI x7), some (vI x8), none] [vI x8, vI s0] (sh, I, L) (0, 0) ?_
  refine hK.1 95 [some (vR h0), some (vR 24), some (vR h2), some (vR h3), some (vI x4), none, some (vI x6), some (vI x7), some (vI x8), none] [vI x6, vI x8, vI s0] (sh, I, L) (0, 0) ?_
  refine hK.1 96 [some (vR h0), some (vR 24), some (vR h2), some (vR h3), some (vI x4), none, some (vI x6), some (vI x7), some (vI x8), none] [vI (x8 - x6), vI s0] (sh, I, L) (0, 0) ?_
  refine And.intro ⟨n96.1, n96.2, Nat.le_of_ble_eq_true rfl, Nat.le_of_ble_eq_true rfl, Nat.le_of_ble_eq_true rfl⟩ ?_
  refine hK.2 [true, true, true, true, true, false, false, true, true, false] _ _ _ _ _ ?_
  exact k
set_option maxRecDepth 4000 in
theorem B_X3_pitch_99 {Q : oQ} {K : oK} (hK : oCl tb_X3_pitch Q K) {sh : oS} {I : Nat → Nat → Int} {L : Nat → Nat → Int64} {h0 : Nat} {h2 : Nat} {h3 : Nat} {x4 : Int} {x7 : Int} {x8 : Int} {s0 : Int} {s1 : Int} (k : K 105 [some (vR h0), some (vR 24), some (vR h2), some (vR h3), some (vI x4), some (vI (s0 + s1)), none, some (vI x7), some (vI x8), some (vI 0)] [] (sh, I, L) (0, 0)) : K 99 [some (vR h0), some (vR 24), some (vR h2), some (vR h3), some (vI x4), none, none, some (vI x7), some (vI x8), none] [vI s1, vI s0] (sh, I, L) (0, 0) := by
  refine hK.1 99 [some (vR h0), some (vR 24), some (vR h2), some (vR h3), some (vI x4), none, none, some (vI x7), some (vI x8), none] [vI s1, vI s0] (sh, I, L) (0, 0) ?_
  refine hK.1 100 [some (vR h0), some (vR 24), some (vR h2), some (vR h3), some (vI x4), none, none, some (vI x7), some (vI x8), none] [vI (s0 + s1)] (sh, I, L) (0, 0) ?_
  refine hK.1 102 [some (vR h0), some (vR 24), some (vR h2), some (vR h3), some (vI x4), some (vI (s0 + s1)), none, some (vI x7), some (vI x8), none] [] (sh, I, L) (0, 0) ?_
  refine hK.1 103 [some (vR h0), some (vR 24), some (vR h2), some (vR h3), some (vI x4), some (vI (s0 + s1)), none, some (vI x7), some (vI x8), none] [vI 0] (sh, I, L) (0, 0) ?_
  exact k
set_option maxRecDepth 4000 in
theorem B_X3_pitch_105 {Q : oQ} {K : oK} (hK : oCl tb_X3_pitch Q K) {sh : oS} {I : Nat → Nat → Int} {L : Nat → Nat → Int64} {h0 : Nat} {h2 : Nat} {h3 : Nat} {x4 : Int} {x5 : Int} {x7 : Int} {x8 : Int} {x9 : Int} (n109a : inR x9) (n109b : inR x4) (kt : x4 ≤ x9 → K 140 [some (vR h0), some (vR 24), some (vR h2), some (vR h3), some (vI x4), some (vI x5), none, some (vI x7), some (vI x8), none] [] (sh, I, L) (0, 0)) (kf : ¬ (x4 ≤ x9) → K 112 [some (vR h0), some (vR 24), some (vR h2), some (vR h3), some (vI x4), some (vI x5), none, some (vI x7), some (vI x8), some (vI x9)] [] (sh, I, L) (0, 0)) : K 105 [some (vR h0), some (vR 24), some (vR h2), some (vR h3), some (vI x4), some (vI x5), none, some (vI x7), some (vI x8), some (vI x9)] [] (sh, I, L) (0, 0) := by
  refine hK.1 105 [some (vR h0), some (vR 24), some (vR h2), some (vR h3), some (vI x4), some (vI x5), none, some (vI x7), some (vI x8), some (vI x9)] [] (sh, I, L) (0, 0) ?_
  refine hK.1 107 [some (vR h0), some (vR 24), some (vR h2), some (vR h3), some (vI x4), some (vI x5), none, some (vI x7), some (vI x8), some (vI x9)] [vI x9] (sh, I, L) (0, 0) ?_
  refine hK.1 109 [some (vR h0), some (vR 24), some (vR h2), some (vR h3), some (vI x4), some (vI x5), none, some (vI x7), some (vI x8), some (vI x9)] [vI x4, vI x9] (sh, I, L) (0, 0) ?_
  exact And.intro (And.intro n109a n109b) (And.intro (fun h => hK.2 [true, true, true, true, true, true, false, true, true, false] _ _ _ _ _ (kt h)) (fun h => hK.2 [true, true, true, true, true, true, false, true, true, true] _ _ _ _ _ (kf h)))
set_option maxRecDepth 4000 in
theorem B_X3_pitch_112 {Q : oQ} {K : oK} (hK : oCl tb_X3_pitch Q K) {sh : oS} (hs : Sh sh) {I : Nat → Nat → Int} {L : Nat → Nat → Int64} {h0 : Nat} {h2 : Nat} {h3 : Nat} {x4 : Int} {x5 : Int} {x7 : Int} {x8 : Int} {x9 : Int} (kh0_0 : sK sh h0 ∈ [3, 5]) (k : T_X9_add [vR 25, vR h2, vR h3, vI x8, vI x5, vI ((x5 + (I h0 1)) - 1)] (sh, I, L) (fun r mm => K 134 [some (vR h0), some (vR 24), some (vR h2), some (vR h3), some (vI x4), some (vI x5), none, some (vI x7), some (vI x8), some (vI x9)] (r.toList ++ []) mm (0, 0))) : K 112 [some (vR h0), some (vR 24), some (vR h2), some (vR h3), some (vI x4), some (vI x5), none, some (vI x7), some (vI x8), some (vI x9)] [] (sh, I, L) (0, 0) := by
  refine hK.1 112 [some (vR h0), some (vR 24), some (vR h2), some (vR h3), some (vI x4), some (vI x5), none, some (vI x7), some (vI x8), some (vI x9)] [] (sh, I, L) (0, 0) ?_
  refine hK.1 113 [some (vR h0), some (vR 24), some (vR h2), some (vR h3), some (vI x4), some (vI x5), none, some (vI x7), some (vI x8), some (vI x9)] [vR 24] (sh, I, L) (0, 0) ?_
  refine And.intro (mem1 (sk_24 hs)) (Exists.intro 25 (And.intro (sr_24_0 hs) ?_))
  refine hK.1 116 [some (vR h0), some (vR 24), some (vR h2), some (vR h3), some (vI x4), some (vI x5), none, some (vI x7), some (vI x8), some (vI x9)] [vR 25] (sh, I, L) (0, 0) ?_
  refine hK.1 117 [some (vR h0), some (vR 24), some (vR h2), some (vR h3), some (vI x4), some (vI x5), none, some (vI x7), some (vI x8), some (vI x9)] [vR h2, vR 25] (sh, I, L) (0, 0) ?_
  refine hK.1 118 [some (vR h0), some (vR 24), some (vR h2), some (vR h3), some (vI x4), some (vI x5), none, some (vI x7), some (vI x8), some (vI x9)] [vR h3, vR h2, vR 25] (sh, I, L) (0, 0) ?_
  refine hK.1 120 [some (vR h0), some (vR 24), some (vR h2), some (vR h3), some (vI x4), some (vI x5), none, some (vI x7), some (vI x8), some (vI x9)] [vI x8, vR h3, vR h2, vR 25] (sh, I, L) (0, 0) ?_
  refine hK.1 122 [some (vR h0), some (vR 24), some (vR h2), some (vR h3), some (vI x4), some (vI x5), none, some (vI x7), some (vI x8), some (vI x9)] [vI x5, vI x8, vR h3, vR h2, vR 25] (sh, I, L) (0, 0) ?_
  refine hK.1 124 [some (vR h0), some (vR 24), some (vR h2), some (vR h3), some (vI x4), some (vI x5), none, some (vI x7), some (vI x8), some (vI x9)] [vI x5, vI x5, vI x8, vR h3, vR h2, vR 25] (sh, I, L) (0, 0) ?_
  refine hK.1 125 [some (vR h0), some (vR 24), some (vR h2), some (vR h3), some (vI x4), some (vI x5), none, some (vI x7), some (vI x8), some (vI x9)] [vR h0, vI x5, vI x5, vI x8, vR h3, vR h2, vR 25] (sh, I, L) (0, 0) ?_
  refine And.intro (kh0_0) ?_
  refine hK.1 128 [some (vR h0), some (vR 24), some (vR h2), some (vR h3), some (vI x4), some (vI x5), none, some (vI x7), some (vI x8), some (vI x9)] [vI (I h0 1), vI x5, vI x5, vI x8, vR h3, vR h2, vR 25] (sh, I, L) (0, 0) ?_
  refine hK.1 129 [some (vR h0), some (vR 24), some (vR h2), some (vR h3), some (vI x4), some (vI x5), none, some (vI x7), some (vI x8), some (vI x9)] [vI (x5 + (I h0 1)), vI x5, vI x8, vR h3, vR h2, vR 25] (sh, I, L) (0, 0) ?_
  refine hK.1 130 [some (vR h0), some (vR 24), some (vR h2), some (vR h3), some (vI x4), some (vI x5), none, some (vI x7), some (vI x8), some (vI x9)] [vI 1, vI (x5 + (I h0 1)), vI x5, vI x8, vR h3, vR h2, vR 25] (sh, I, L) (0, 0) ?_
  refine hK.1 131 [some (vR h0), some (vR 24), some (vR h2), some (vR h3), some (vI x4), some (vI x5), none, some (vI x7), some (vI x8), some (vI x9)] [vI ((x5 + (I h0 1)) - 1), vI x5, vI x8, vR h3, vR h2, vR 25] (sh, I, L) (0, 0) ?_
  exact And.intro ⟨(sk_25 hs), Nat.le_of_ble_eq_true rfl, Nat.le_of_ble_eq_true rfl, Nat.le_of_ble_eq_true rfl, Nat.le_of_ble_eq_true rfl⟩ k
set_option maxRecDepth 4000 in
theorem B_X3_pitch_134 {Q : oQ} {K : oK} (hK : oCl tb_X3_pitch Q K) {sh : oS} {I : Nat → Nat → Int} {L : Nat → Nat → Int64} {h0 : Nat} {h2 : Nat} {h3 : Nat} {x4 : Int} {x5 : Int} {x7 : Int} {x8 : Int} {x9 : Int} (k : K 105 [some (vR h0), some (vR 24), some (vR h2), some (vR h3), some (vI x4), some (vI x5), none, some (vI x7), some (vI x8), some (vI (x9 + 1))] [] (sh, I, L) (0, 0)) : K 134 [some (vR h0), some (vR 24), some (vR h2), some (vR h3), some (vI x4), some (vI x5), none, some (vI x7), some (vI x8), some (vI x9)] [] (sh, I, L) (0, 0) := by
  refine hK.1 134 [some (vR h0), some (vR 24), some (vR h2), some (vR h3), some (vI x4), some (vI x5), none, some (vI x7), some (vI x8), some (vI x9)] [] (sh, I, L) (0, 0) ?_
  refine hK.1 137 [some (vR h0), some (vR 24), some (vR h2), some (vR h3), some (vI x4), some (vI x5), none, some (vI x7), some (vI x8), some (vI (x9 + 1))] [] (sh, I, L) (0, 0) ?_
  exact k
set_option maxRecDepth 4000 in
theorem B_X3_pitch_140 {Q : oQ} {K : oK} (hK : oCl tb_X3_pitch Q K) {sh : oS} {I : Nat → Nat → Int} {L : Nat → Nat → Int64} {h0 : Nat} {h2 : Nat} {h3 : Nat} {x4 : Int} {x5 : Int} {x7 : Int} {x8 : Int} (kh0_0 : sK sh h0 ∈ [3, 5]) (k : K 153 [some (vR h0), some (vR 24), some (vR h2), some (vR h3), some (vI x4), some (vI (x5 + (I h0 1))), some (vI x8), some (vI x7), none, none] [] (sh, I, L) (0, 0)) : K 140 [some (vR h0), some (vR 24), some (vR h2), some (vR h3), some (vI x4), some (vI x5), none, some (vI x7), some (vI x8), none] [] (sh, I, L) (0, 0) := by
  refine hK.1 140 [some (vR h0), some (vR 24), some (vR h2), some (vR h3), some (vI x4), some (vI x5), none, some (vI x7), some (vI x8), none] [] (sh, I, L) (0, 0) ?_
  refine hK.1 142 [some (vR h0), some (vR 24), some (vR h2), some (vR h3), some (vI x4), some (vI x5), none, some (vI x7), some (vI x8), none] [vI x8] (sh, I, L) (0, 0) ?_
  refine hK.1 144 [some (vR h0), some (vR 24), some (vR h2), some (vR h3), some (vI x4), some (vI x5), some (vI x8), some (vI x7), some (vI x8), none] [] (sh, I, L) (0, 0) ?_
  refine hK.1 146 [some (vR h0), some (vR 24), some (vR h2), some (vR h3), some (vI x4), some (vI x5), some (vI x8), some (vI x7), some (vI x8), none] [vI x5] (sh, I, L) (0, 0) ?_
  refine hK.1 147 [some (vR h0), some (vR 24), some (vR h2), some (vR h3), some (vI x4), some (vI x5), some (vI x8), some (vI x7), some (vI x8), none] [vR h0, vI x5] (sh, I, L) (0, 0) ?_
  refine And.intro (kh0_0) ?_
  refine hK.1 150 [some (vR h0), some (vR 24), some (vR h2), some (vR h3), some (vI x4), some (vI x5), some (vI x8), some (vI x7), some (vI x8), none] [vI (I h0 1), vI x5] (sh, I, L) (0, 0) ?_
  refine hK.1 151 [some (vR h0), some (vR 24), some (vR h2), some (vR h3), some (vI x4), some (vI x5), some (vI x8), some (vI x7), some (vI x8), none] [vI (x5 + (I h0 1))] (sh, I, L) (0, 0) ?_
  refine hK.2 [true, true, true, true, true, true, true, true, false, false] _ _ _ _ _ ?_
  exact k
set_option maxRecDepth 4000 in
theorem B_X3_pitch_153 {Q : oQ} {K : oK} (hK : oCl tb_X3_pitch Q K) {sh : oS} {I : Nat → Nat → Int} {L : Nat → Nat → Int64} {h0 : Nat} {h2 : Nat} {h3 : Nat} {x4 : Int} {x5 : Int} {x6 : Int} {x7 : Int} (k : K 33 [some (vR h0), some (vR 24), some (vR h2), some (vR h3), some (vI x4), some (vI x5), some (vI x6), some (vI (x7 + 1)), none, none] [] (sh, I, L) (0, 0)) : K 153 [some (vR h0), some (vR 24), some (vR h2), some (vR h3), some (vI x4), some (vI x5), some (vI x6), some (vI x7), none, none] [] (sh, I, L) (0, 0) := by
  refine hK.1 153 [some (vR h0), some (vR 24), some (vR h2), some (vR h3), some (vI x4), some (vI x5), some (vI x6), some (vI x7), none, none] [] (sh, I, L) (0, 0) ?_
  refine hK.1 156 [some (vR h0), some (vR 24), some (vR h2), some (vR h3), some (vI x4), some (vI x5), some (vI x6), some (vI (x7 + 1)), none, none] [] (sh, I, L) (0, 0) ?_
  exact k
set_option maxRecDepth 4000 in
theorem B_X3_pitch_159 {Q : oQ} {K : oK} (hK : oCl tb_X3_pitch Q K) {sh : oS} {I : Nat → Nat → Int} {L : Nat → Nat → Int64}  (k : Q none (sh, I, L)) : K 159 [none, none, none, none, none, none, none, none, none, none] [] (sh, I, L) (0, 0) := by
  refine hK.1 159 [none, none, none, none, none, none, none, none, none, none] [] (sh, I, L) (0, 0) ?_
  exact And.intro rfl (And.intro ⟨by decide, by decide⟩ k)
set_option maxRecDepth 4000 in
theorem B_X6_hasWay_0 {Q : oQ} {K : oK} (hK : oCl tb_X6_hasWay Q K) {sh : oS} {I : Nat → Nat → Int} {L : Nat → Nat → Int64} {h0 : Nat} {x1 : Int} (n1 : inR x1) (kt : x1 < 0 → K 16 [none, none] [] (sh, I, L) (0, 0)) (kf : ¬ (x1 < 0) → K 4 [some (vR h0), some (vI x1)] [] (sh, I, L) (0, 0)) : K 0 [some (vR h0), some (vI x1)] [] (sh, I, L) (0, 0) := by
  refine hK.1 0 [some (vR h0), some (vI x1)] [] (sh, I, L) (0, 0) ?_
  refine hK.1 1 [some (vR h0), some (vI x1)] [vI x1] (sh, I, L) (0, 0) ?_
  exact And.intro (n1) (And.intro (fun h => hK.2 [false, false] _ _ _ _ _ (kt h)) (fun h => hK.2 [true, true] _ _ _ _ _ (kf h)))
set_option maxRecDepth 4000 in
theorem B_X6_hasWay_4 {Q : oQ} {K : oK} (hK : oCl tb_X6_hasWay Q K) {sh : oS} {I : Nat → Nat → Int} {L : Nat → Nat → Int64} {h0 : Nat} {x1 : Int} {h0e h0p h0t : Nat} (k : T_X6_wayOn [vR h0] (sh, I, L) (fun r mm => K 9 [none, none] (r.toList ++ [vI x1]) mm (0, 0))) (Ah0 : MarchAt sh h0 h0e h0p h0t) : K 4 [some (vR h0), some (vI x1)] [] (sh, I, L) (0, 0) := by
  refine hK.1 4 [some (vR h0), some (vI x1)] [] (sh, I, L) (0, 0) ?_
  refine hK.1 5 [some (vR h0), some (vI x1)] [vI x1] (sh, I, L) (0, 0) ?_
  refine hK.2 [false, false] _ _ _ _ _ ?_
  refine hK.1 6 [none, none] [vR h0, vI x1] (sh, I, L) (0, 0) ?_
  exact And.intro ⟨Ah0.1, Nat.le_of_ble_eq_true rfl, Nat.le_of_ble_eq_true rfl, Nat.le_of_ble_eq_true rfl, Nat.le_of_ble_eq_true rfl⟩ k
set_option maxRecDepth 4000 in
theorem B_X6_hasWay_9 {Q : oQ} {K : oK} (hK : oCl tb_X6_hasWay Q K) {sh : oS} {I : Nat → Nat → Int} {L : Nat → Nat → Int64} {s0 : Int} {s1 : Int} (n9a : inR s0) (n9b : inR s1) (kt : s1 < s0 → K 16 [none, none] [] (sh, I, L) (0, 0)) (kf : ¬ (s1 < s0) → K 12 [none, none] [] (sh, I, L) (0, 0)) : K 9 [none, none] [vI s1, vI s0] (sh, I, L) (0, 0) := by
  refine hK.1 9 [none, none] [vI s1, vI s0] (sh, I, L) (0, 0) ?_
  exact And.intro (And.intro n9a n9b) (And.intro (fun h => hK.2 [false, false] _ _ _ _ _ (kt h)) (fun h => hK.2 [false, false] _ _ _ _ _ (kf h)))
set_option maxRecDepth 4000 in
theorem B_X6_hasWay_12 {Q : oQ} {K : oK} (hK : oCl tb_X6_hasWay Q K) {sh : oS} {I : Nat → Nat → Int} {L : Nat → Nat → Int64}  (k : K 17 [none, none] [vI 1] (sh, I, L) (0, 0)) : K 12 [none, none] [] (sh, I, L) (0, 0) := by
  refine hK.1 12 [none, none] [] (sh, I, L) (0, 0) ?_
  refine hK.1 13 [none, none] [vI 1] (sh, I, L) (0, 0) ?_
  exact k
set_option maxRecDepth 4000 in
theorem B_X6_hasWay_16 {Q : oQ} {K : oK} (hK : oCl tb_X6_hasWay Q K) {sh : oS} {I : Nat → Nat → Int} {L : Nat → Nat → Int64}  (k : K 17 [none, none] [vI 0] (sh, I, L) (0, 0)) : K 16 [none, none] [] (sh, I, L) (0, 0) := by
  refine hK.1 16 [none, none] [] (sh, I, L) (0, 0) ?_
  exact k
set_option maxRecDepth 4000 in
theorem B_X6_hasWay_17 {Q : oQ} {K : oK} (hK : oCl tb_X6_hasWay Q K) {sh : oS} {I : Nat → Nat → Int} {L : Nat → Nat → Int64} {s0 : Int} (o17 : s0 = 0 ∨ s0 = 1) (k : Q (some (vI s0)) (sh, I, L)) : K 17 [none, none] [vI s0] (sh, I, L) (0, 0) := by
  refine hK.1 17 [none, none] [vI s0] (sh, I, L) (0, 0) ?_
  exact And.intro ⟨o17, by decide, by decide⟩ k
set_option maxRecDepth 4000 in
theorem B_X9_bakingAt_0 {Q : oQ} {K : oK} (hK : oCl tb_X9_bakingAt Q K) {sh : oS} {I : Nat → Nat → Int} {L : Nat → Nat → Int64} {x1 : Int} {x2 : Int} {x3 : Int} (k : K 6 [some (vR 25), some (vI x1), some (vI x2), some (vI x3), some (vI 0), some (vI 0)] [] (sh, I, L) (0, 0)) : K 0 [some (vR 25), some (vI x1), some (vI x2), some (vI x3), none, none] [] (sh, I, L) (0, 0) := by
  refine hK.1 0 [some (vR 25), some (vI x1), some (vI x2), some (vI x3), none, none] [] (sh, I, L) (0, 0) ?_
  refine hK.1 1 [some (vR 25), some (vI x1), some (vI x2), some (vI x3), none, none] [vI 0] (sh, I, L) (0, 0) ?_
  refine hK.1 3 [some (vR 25), some (vI x1), some (vI x2), some (vI x3), some (vI 0), none] [] (sh, I, L) (0, 0) ?_
  refine hK.1 4 [some (vR 25), some (vI x1), some (vI x2), some (vI x3), some (vI 0), none] [vI 0] (sh, I, L) (0, 0) ?_
  exact k
set_option maxRecDepth 4000 in
theorem B_X9_bakingAt_6 {Q : oQ} {K : oK} (hK : oCl tb_X9_bakingAt Q K) {sh : oS} (hs : Sh sh) {I : Nat → Nat → Int} {L : Nat → Nat → Int64} {x1 : Int} {x2 : Int} {x3 : Int} {x4 : Int} {x5 : Int} (n12a : inR x5) (n12b : inR (I 25 3)) (kt : I 25 3 ≤ x5 → K 59 [none, none, none, none, some (vI x4), none] [] (sh, I, L) (0, 0)) (kf : ¬ (I 25 3 ≤ x5) → K 15 [some (vR 25), some (vI x1), some (vI x2), some (vI x3), some (vI x4), some (vI x5)] [] (sh, I, L) (0, 0)) : K 6 [some (vR 25), some (vI x1), some (vI x2), some (vI x3), some (vI x4), some (vI x5)] [] (sh, I, L) (0, 0) := by
  refine hK.1 6 [some (vR 25), some (vI x1), some (vI x2), some (vI x3), some (vI x4), some (vI x5)] [] (sh, I, L) (0, 0) ?_
  refine hK.1 8 [some (vR 25), some (vI x1), some (vI x2), some (vI x3), some (vI x4), some (vI x5)] [vI x5] (sh, I, L) (0, 0) ?_
  refine hK.1 9 [some (vR 25), some (vI x1), some (vI x2), some (vI x3), some (vI x4), some (vI x5)] [vR 25, vI x5] (sh, I, L) (0, 0) ?_
  refine And.intro (mem1 (sk_25 hs)) ?_
  refine hK.1 12 [some (vR 25), some (vI x1), some (vI x2), some (vI x3), some (vI x4), some (vI x5)] [vI (I 25 3), vI x5] (sh, I, L) (0, 0) ?_
  exact And.intro (And.intro n12a n12b) (And.intro (fun h => hK.2 [false, false, false, false, true, false] _ _ _ _ _ (kt h)) (fun h => hK.2 [true, true, true, true, true, true] _ _ _ _ _ (kf h)))
set_option maxRecDepth 4000 in
theorem B_X9_bakingAt_15 {Q : oQ} {K : oK} (hK : oCl tb_X9_bakingAt Q K) {sh : oS} (hs : Sh sh) {I : Nat → Nat → Int} {L : Nat → Nat → Int64} {x1 : Int} {x2 : Int} {x3 : Int} {x4 : Int} {x5 : Int} (b21 : 0 ≤ x5 ∧ x5 < 30) (n23a : inR (I 26 (x5.toNat))) (n23b : inR x1) (kt : ¬ I 26 (x5.toNat) = x1 → K 53 [some (vR 25), some (vI x1), some (vI x2), some (vI x3), some (vI x4), some (vI x5)] [] (sh, I, L) (0, 0)) (kf : ¬ (¬ I 26 (x5.toNat) = x1) → K 26 [some (vR 25), some (vI x1), some (vI x2), some (vI x3), some (vI x4), some (vI x5)] [] (sh, I, L) (0, 0)) : K 15 [some (vR 25), some (vI x1), some (vI x2), some (vI x3), some (vI x4), some (vI x5)] [] (sh, I, L) (0, 0) := by
  refine hK.1 15 [some (vR 25), some (vI x1), some (vI x2), some (vI x3), some (vI x4), some (vI x5)] [] (sh, I, L) (0, 0) ?_
  refine hK.1 16 [some (vR 25), some (vI x1), some (vI x2), some (vI x3), some (vI x4), some (vI x5)] [vR 25] (sh, I, L) (0, 0) ?_
  refine And.intro (mem1 (sk_25 hs)) (Exists.intro 26 (And.intro (sr_25_0 hs) ?_))
  refine hK.1 19 [some (vR 25), some (vI x1), some (vI x2), some (vI x3), some (vI x4), some (vI x5)] [vR 26] (sh, I, L) (0, 0) ?_
  refine hK.1 21 [some (vR 25), some (vI x1), some (vI x2), some (vI x3), some (vI x4), some (vI x5)] [vI x5, vR 26] (sh, I, L) (0, 0) ?_
  refine And.intro (And.intro (sk_26 hs) (ixL (sl_26 hs) b21)) ?_
  refine hK.1 22 [some (vR 25), some (vI x1), some (vI x2), some (vI x3), some (vI x4), some (vI x5)] [vI (I 26 (x5.toNat))] (sh, I, L) (0, 0) ?_
  refine hK.1 23 [some (vR 25), some (vI x1), some (vI x2), some (vI x3), some (vI x4), some (vI x5)] [vI x1, vI (I 26 (x5.toNat))] (sh, I, L) (0, 0) ?_
  exact And.intro (And.intro n23a n23b) (And.intro (fun h => hK.2 [true, true, true, true, true, true] _ _ _ _ _ (kt h)) (fun h => hK.2 [true, true, true, true, true, true] _ _ _ _ _ (kf h)))
set_option maxRecDepth 4000 in
theorem B_X9_bakingAt_26 {Q : oQ} {K : oK} (hK : oCl tb_X9_bakingAt Q K) {sh : oS} (hs : Sh sh) {I : Nat → Nat → Int} {L : Nat → Nat → Int64} {x1 : Int} {x2 : Int} {x3 : Int} {x4 : Int} {x5 : Int} (b32 : 0 ≤ x5 ∧ x5 < 30) (n36a : inR ((I 27 (x5.toNat)) + x3)) (n36b : inR x2) (kt : x2 < (I 27 (x5.toNat)) + x3 → K 53 [some (vR 25), some (vI x1), some (vI x2), some (vI x3), some (vI x4), some (vI x5)] [] (sh, I, L) (0, 0)) (kf : ¬ (x2 < (I 27 (x5.toNat)) + x3) → K 39 [some (vR 25), some (vI x1), some (vI x2), some (vI x3), some (vI x4), some (vI x5)] [] (sh, I, L) (0, 0)) : K 26 [some (vR 25), some (vI x1), some (vI x2), some (vI x3), some (vI x4), some (vI x5)] [] (sh, I, L) (0, 0) := by
  refine hK.1 26 [some (vR 25), some (vI x1), some (vI x2), some (vI x3), some (vI x4), some (vI x5)] [] (sh, I, L) (0, 0) ?_
  refine hK.1 27 [some (vR 25), some (vI x1), some (vI x2), some (vI x3), some (vI x4), some (vI x5)] [vR 25] (sh, I, L) (0, 0) ?_
  refine And.intro (mem1 (sk_25 hs)) (Exists.intro 27 (And.intro (sr_25_1 hs) ?_))
  refine hK.1 30 [some (vR 25), some (vI x1), some (vI x2), some (vI x3), some (vI x4), some (vI x5)] [vR 27] (sh, I, L) (0, 0) ?_
  refine hK.1 32 [some (vR 25), some (vI x1), some (vI x2), some (vI x3), some (vI x4), some (vI x5)] [vI x5, vR 27] (sh, I, L) (0, 0) ?_
  refine And.intro (And.intro (sk_27 hs) (ixL (sl_27 hs) b32)) ?_
  refine hK.1 33 [some (vR 25), some (vI x1), some (vI x2), some (vI x3), some (vI x4), some (vI x5)] [vI (I 27 (x5.toNat))] (sh, I, L) (0, 0) ?_
  refine hK.1 34 [some (vR 25), some (vI x1), some (vI x2), some (vI x3), some (vI x4), some (vI x5)] [vI x3, vI (I 27 (x5.toNat))] (sh, I, L) (0, 0) ?_
  refine hK.1 35 [some (vR 25), some (vI x1), some (vI x2), some (vI x3), some (vI x4), some (vI x5)] [vI ((I 27 (x5.toNat)) + x3)] (sh, I, L) (0, 0) ?_
  refine hK.1 36 [some (vR 25), some (vI x1), some (vI x2), some (vI x3), some (vI x4), some (vI x5)] [vI x2, vI ((I 27 (x5.toNat)) + x3)] (sh, I, L) (0, 0) ?_
  exact And.intro (And.intro n36a n36b) (And.intro (fun h => hK.2 [true, true, true, true, true, true] _ _ _ _ _ (kt h)) (fun h => hK.2 [true, true, true, true, true, true] _ _ _ _ _ (kf h)))
set_option maxRecDepth 4000 in
theorem B_X9_bakingAt_39 {Q : oQ} {K : oK} (hK : oCl tb_X9_bakingAt Q K) {sh : oS} (hs : Sh sh) {I : Nat → Nat → Int} {L : Nat → Nat → Int64} {x1 : Int} {x2 : Int} {x3 : Int} {x4 : Int} {x5 : Int} (b46 : 0 ≤ x5 ∧ x5 < 30) (n47a : inR x2) (n47b : inR (I 28 (x5.toNat))) (kt : I 28 (x5.toNat) < x2 → K 53 [some (vR 25), some (vI x1), some (vI x2), some (vI x3), some (vI x4), some (vI x5)] [] (sh, I, L) (0, 0)) (kf : ¬ (I 28 (x5.toNat) < x2) → K 50 [some (vR 25), some (vI x1), some (vI x2), some (vI x3), some (vI x4), some (vI x5)] [] (sh, I, L) (0, 0)) : K 39 [some (vR 25), some (vI x1), some (vI x2), some (vI x3), some (vI x4), some (vI x5)] [] (sh, I, L) (0, 0) := by
  refine hK.1 39 [some (vR 25), some (vI x1), some (vI x2), some (vI x3), some (vI x4), some (vI x5)] [] (sh, I, L) (0, 0) ?_
  refine hK.1 40 [some (vR 25), some (vI x1), some (vI x2), some (vI x3), some (vI x4), some (vI x5)] [vI x2] (sh, I, L) (0, 0) ?_
  refine hK.1 41 [some (vR 25), some (vI x1), some (vI x2), some (vI x3), some (vI x4), some (vI x5)] [vR 25, vI x2] (sh, I, L) (0, 0) ?_
  refine And.intro (mem1 (sk_25 hs)) (Exists.intro 28 (And.intro (sr_25_2 hs) ?_))
  refine hK.1 44 [some (vR 25), some (vI x1), some (vI x2), some (vI x3), some (vI x4), some (vI x5)] [vR 28, vI x2] (sh, I, L) (0, 0) ?_
  refine hK.1 46 [some (vR 25), some (vI x1), some (vI x2), some (vI x3), some (vI x4), some (vI x5)] [vI x5, vR 28, vI x2] (sh, I, L) (0, 0) ?_
  refine And.intro (And.intro (sk_28 hs) (ixL (sl_28 hs) b46)) ?_
  refine hK.1 47 [some (vR 25), some (vI x1), some (vI x2), some (vI x3), some (vI x4), some (vI x5)] [vI (I 28 (x5.toNat)), vI x2] (sh, I, L) (0, 0) ?_
  exact And.intro (And.intro n47a n47b) (And.intro (fun h => hK.2 [true, true, true, true, true, true] _ _ _ _ _ (kt h)) (fun h => hK.2 [true, true, true, true, true, true] _ _ _ _ _ (kf h)))
set_option maxRecDepth 4000 in
theorem B_X9_bakingAt_50 {Q : oQ} {K : oK} (hK : oCl tb_X9_bakingAt Q K) {sh : oS} {I : Nat → Nat → Int} {L : Nat → Nat → Int64} {x1 : Int} {x2 : Int} {x3 : Int} {x4 : Int} {x5 : Int} (k : K 53 [some (vR 25), some (vI x1), some (vI x2), some (vI x3), some (vI (x4 + 1)), some (vI x5)] [] (sh, I, L) (0, 0)) : K 50 [some (vR 25), some (vI x1), some (vI x2), some (vI x3), some (vI x4), some (vI x5)] [] (sh, I, L) (0, 0) := by
  refine hK.1 50 [some (vR 25), some (vI x1), some (vI x2), some (vI x3), some (vI x4), some (vI x5)] [] (sh, I, L) (0, 0) ?_
  exact k
set_option maxRecDepth 4000 in
theorem B_X9_bakingAt_53 {Q : oQ} {K : oK} (hK : oCl tb_X9_bakingAt Q K) {sh : oS} {I : Nat → Nat → Int} {L : Nat → Nat → Int64} {x1 : Int} {x2 : Int} {x3 : Int} {x4 : Int} {x5 : Int} (k : K 6 [some (vR 25), some (vI x1), some (vI x2), some (vI x3), some (vI x4), some (vI (x5 + 1))] [] (sh, I, L) (0, 0)) : K 53 [some (vR 25), some (vI x1), some (vI x2), some (vI x3), some (vI x4), some (vI x5)] [] (sh, I, L) (0, 0) := by
  refine hK.1 53 [some (vR 25), some (vI x1), some (vI x2), some (vI x3), some (vI x4), some (vI x5)] [] (sh, I, L) (0, 0) ?_
  refine hK.1 56 [some (vR 25), some (vI x1), some (vI x2), some (vI x3), some (vI x4), some (vI (x5 + 1))] [] (sh, I, L) (0, 0) ?_
  exact k
set_option maxRecDepth 4000 in
theorem B_X9_bakingAt_59 {Q : oQ} {K : oK} (hK : oCl tb_X9_bakingAt Q K) {sh : oS} {I : Nat → Nat → Int} {L : Nat → Nat → Int64} {x4 : Int} (k : Q (some (vI x4)) (sh, I, L)) : K 59 [none, none, none, none, some (vI x4), none] [] (sh, I, L) (0, 0) := by
  refine hK.1 59 [none, none, none, none, some (vI x4), none] [] (sh, I, L) (0, 0) ?_
  refine hK.1 61 [none, none, none, none, some (vI x4), none] [vI x4] (sh, I, L) (0, 0) ?_
  exact And.intro ⟨by decide, by decide⟩ k
set_option maxRecDepth 4000 in
theorem B_X4_become_0 {Q : oQ} {K : oK} (hK : oCl tb_X4_become Q K) {sh : oS} {I : Nat → Nat → Int} {L : Nat → Nat → Int64} {h0 : Nat} {h1 : Nat} {h1f h1w : Nat} {h0f h0w : Nat} (Ah1 : LandAt sh h1 h1f h1w) (Ah0 : LandAt sh h0 h0f h0w) (c20 : (0 : Int) ≤ 8 ∧ (0 : Int) ≤ 0 ∧ (0 : Int) ≤ 0 ∧ (0 : Int) + 8 ≤ 8 ∧ (0 : Int) + 8 ≤ 8) (c35 : (0 : Int) ≤ 8 ∧ (0 : Int) ≤ 0 ∧ (0 : Int) ≤ 0 ∧ (0 : Int) + 8 ≤ 8 ∧ (0 : Int) + 8 ≤ 8) (k : Q none (sh, (u2 (u2 (u2 (u2 (oCpy (oCpy (u2 I h0 0 (I h1 0)) h1f 0 h0f 0 8) h1w 0 h0w 0 8) h0 3 ((oCpy (oCpy (u2 I h0 0 (I h1 0)) h1f 0 h0f 0 8) h1w 0 h0w 0 8) h1 3)) h0 4 ((u2 (oCpy (oCpy (u2 I h0 0 (I h1 0)) h1f 0 h0f 0 8) h1w 0 h0w 0 8) h0 3 ((oCpy (oCpy (u2 I h0 0 (I h1 0)) h1f 0 h0f 0 8) h1w 0 h0w 0 8) h1 3)) h1 4)) h0 5 ((u2 (u2 (oCpy (oCpy (u2 I h0 0 (I h1 0)) h1f 0 h0f 0 8) h1w 0 h0w 0 8) h0 3 ((oCpy (oCpy (u2 I h0 0 (I h1 0)) h1f 0 h0f 0 8) h1w 0 h0w 0 8) h1 3)) h0 4 ((u2 (oCpy (oCpy (u2 I h0 0 (I h1 0)) h1f 0 h0f 0 8) h1w 0 h0w 0 8) h0 3 ((oCpy (oCpy (u2 I h0 0 (I h1 0)) h1f 0 h0f 0 8) h1w 0 h0w 0 8) h1 3)) h1 4)) h1 5)) h0 6 ((u2 (u2 (u2 (oCpy (oCpy (u2 I h0 0 (I h1 0)) h1f 0 h0f 0 8) h1w 0 h0w 0 8) h0 3 ((oCpy (oCpy (u2 I h0 0 (I h1 0)) h1f 0 h0f 0 8) h1w 0 h0w 0 8) h1 3)) h0 4 ((u2 (oCpy (oCpy (u2 I h0 0 (I h1 0)) h1f 0 h0f 0 8) h1w 0 h0w 0 8) h0 3 ((oCpy (oCpy (u2 I h0 0 (I h1 0)) h1f 0 h0f 0 8) h1w 0 h0w 0 8) h1 3)) h1 4)) h0 5 ((u2 (u2 (oCpy (oCpy (u2 I h0 0 (I h1 0)) h1f 0 h0f 0 8) h1w 0 h0w 0 8) h0 3 ((oCpy (oCpy (u2 I h0 0 (I h1 0)) h1f 0 h0f 0 8) h1w 0 h0w 0 8) h1 3)) h0 4 ((u2 (oCpy (oCpy (u2 I h0 0 (I h1 0)) h1f 0 h0f 0 8) h1w 0 h0w 0 8) h0 3 ((oCpy (oCpy (u2 I h0 0 (I h1 0)) h1f 0 h0f 0 8) h1w 0 h0w 0 8) h1 3)) h1 4)) h1 5)) h1 6)), L)) : K 0 [some (vR h0), some (vR h1)] [] (sh, I, L) (0, 0) := by
  refine hK.1 0 [some (vR h0), some (vR h1)] [] (sh, I, L) (0, 0) ?_
  refine hK.1 1 [some (vR h0), some (vR h1)] [vR h0] (sh, I, L) (0, 0) ?_
  refine hK.1 2 [some (vR h0), some (vR h1)] [vR h1, vR h0] (sh, I, L) (0, 0) ?_
  refine And.intro (mem1 Ah1.1) ?_
  refine hK.1 5 [some (vR h0), some (vR h1)] [vI (I h1 0), vR h0] (sh, I, L) (0, 0) ?_
  refine And.intro (mem1 Ah0.1) ?_
  refine hK.1 8 [some (vR h0), some (vR h1)] [] (sh, (u2 I h0 0 (I h1 0)), L) (0, 0) ?_
  refine hK.1 9 [some (vR h0), some (vR h1)] [vR h1] (sh, (u2 I h0 0 (I h1 0)), L) (0, 0) ?_
  refine And.intro (mem1 Ah1.1) (Exists.intro h1f (And.intro Ah1.2.1 ?_))
  refine hK.1 12 [some (vR h0), some (vR h1)] [vR h1f] (sh, (u2 I h0 0 (I h1 0)), L) (0, 0) ?_
  refine hK.1 13 [some (vR h0), some (vR h1)] [vI 0, vR h1f] (sh, (u2 I h0 0 (I h1 0)), L) (0, 0) ?_
  refine hK.1 14 [some (vR h0), some (vR h1)] [vR h0, vI 0, vR h1f] (sh, (u2 I h0 0 (I h1 0)), L) (0, 0) ?_
  refine And.intro (mem1 Ah0.1) (Exists.intro h0f (And.intro Ah0.2.1 ?_))
  refine hK.1 17 [some (vR h0), some (vR h1)] [vR h0f, vI 0, vR h1f] (sh, (u2 I h0 0 (I h1 0)), L) (0, 0) ?_
  refine hK.1 18 [some (vR h0), some (vR h1)] [vI 0, vR h0f, vI 0, vR h1f] (sh, (u2 I h0 0 (I h1 0)), L) (0, 0) ?_
  refine hK.1 20 [some (vR h0), some (vR h1)] [vI 8, vI 0, vR h0f, vI 0, vR h1f] (sh, (u2 I h0 0 (I h1 0)), L) (0, 0) ?_
  refine And.intro ⟨Ah1.2.2.2.1.1, Ah0.2.2.2.1.1, c20.1, c20.2.1, c20.2.2.1, cpL (Ah1.2.2.2.1.2) c20.2.2.2.1, cpL (Ah0.2.2.2.1.2) c20.2.2.2.2, Nat.le_of_ble_eq_true rfl⟩ ?_
  refine hK.1 23 [some (vR h0), some (vR h1)] [] (sh, (oCpy (u2 I h0 0 (I h1 0)) h1f 0 h0f 0 8), L) (0, 0) ?_
  refine hK.1 24 [some (vR h0), some (vR h1)] [vR h1] (sh, (oCpy (u2 I h0 0 (I h1 0)) h1f 0 h0f 0 8), L) (0, 0) ?_
  refine And.intro (mem1 Ah1.1) (Exists.intro h1w (And.intro Ah1.2.2.1 ?_))
  refine hK.1 27 [some (vR h0), some (vR h1)] [vR h1w] (sh, (oCpy (u2 I h0 0 (I h1 0)) h1f 0 h0f 0 8), L) (0, 0) ?_
  refine hK.1 28 [some (vR h0), some (vR h1)] [vI 0, vR h1w] (sh, (oCpy (u2 I h0 0 (I h1 0)) h1f 0 h0f 0 8), L) (0, 0) ?_
  refine hK.1 29 [some (vR h0), some (vR h1)] [vR h0, vI 0, vR h1w] (sh, (oCpy (u2 I h0 0 (I h1 0)) h1f 0 h0f 0 8), L) (0, 0) ?_
  refine And.intro (mem1 Ah0.1) (Exists.intro h0w (And.intro Ah0.2.2.1 ?_))
  refine hK.1 32 [some (vR h0), some (vR h1)] [vR h0w, vI 0, vR h1w] (sh, (oCpy (u2 I h0 0 (I h1 0)) h1f 0 h0f 0 8), L) (0, 0) ?_
  refine hK.1 33 [some (vR h0), some (vR h1)] [vI 0, vR h0w, vI 0, vR h1w] (sh, (oCpy (u2 I h0 0 (I h1 0)) h1f 0 h0f 0 8), L) (0, 0) ?_
  refine hK.1 35 [some (vR h0), some (vR h1)] [vI 8, vI 0, vR h0w, vI 0, vR h1w] (sh, (oCpy (u2 I h0 0 (I h1 0)) h1f 0 h0f 0 8), L) (0, 0) ?_
  refine And.intro ⟨Ah1.2.2.2.2.1, Ah0.2.2.2.2.1, c35.1, c35.2.1, c35.2.2.1, cpL (Ah1.2.2.2.2.2) c35.2.2.2.1, cpL (Ah0.2.2.2.2.2) c35.2.2.2.2, Nat.le_of_ble_eq_true rfl⟩ ?_
  refine hK.1 38 [some (vR h0), some (vR h1)] [] (sh, (oCpy (oCpy (u2 I h0 0 (I h1 0)) h1f 0 h0f 0 8) h1w 0 h0w 0 8), L) (0, 0) ?_
  refine hK.1 39 [some (vR h0), some (vR h1)] [vR h0] (sh, (oCpy (oCpy (u2 I h0 0 (I h1 0)) h1f 0 h0f 0 8) h1w 0 h0w 0 8), L) (0, 0) ?_
  refine hK.1 40 [some (vR h0), some (vR h1)] [vR h1, vR h0] (sh, (oCpy (oCpy (u2 I h0 0 (I h1 0)) h1f 0 h0f 0 8) h1w 0 h0w 0 8), L) (0, 0) ?_
  refine And.intro (mem1 Ah1.1) ?_
  refine hK.1 43 [some (vR h0), some (vR h1)] [vI ((oCpy (oCpy (u2 I h0 0 (I h1 0)) h1f 0 h0f 0 8) h1w 0 h0w 0 8) h1 3), vR h0] (sh, (oCpy (oCpy (u2 I h0 0 (I h1 0)) h1f 0 h0f 0 8) h1w 0 h0w 0 8), L) (0, 0) ?_
  refine And.intro (mem1 Ah0.1) ?_
  refine hK.1 46 [some (vR h0), some (vR h1)] [] (sh, (u2 (oCpy (oCpy (u2 I h0 0 (I h1 0)) h1f 0 h0f 0 8) h1w 0 h0w 0 8) h0 3 ((oCpy (oCpy (u2 I h0 0 (I h1 0)) h1f 0 h0f 0 8) h1w 0 h0w 0 8) h1 3)), L) (0, 0) ?_
  refine hK.1 47 [some (vR h0), some (vR h1)] [vR h0] (sh, (u2 (oCpy (oCpy (u2 I h0 0 (I h1 0)) h1f 0 h0f 0 8) h1w 0 h0w 0 8) h0 3 ((oCpy (oCpy (u2 I h0 0 (I h1 0)) h1f 0 h0f 0 8) h1w 0 h0w 0 8) h1 3)), L) (0, 0) ?_
  refine hK.1 48 [some (vR h0), some (vR h1)] [vR h1, vR h0] (sh, (u2 (oCpy (oCpy (u2 I h0 0 (I h1 0)) h1f 0 h0f 0 8) h1w 0 h0w 0 8) h0 3 ((oCpy (oCpy (u2 I h0 0 (I h1 0)) h1f 0 h0f 0 8) h1w 0 h0w 0 8) h1 3)), L) (0, 0) ?_
  refine And.intro (mem1 Ah1.1) ?_
  refine hK.1 51 [some (vR h0), some (vR h1)] [vI ((u2 (oCpy (oCpy (u2 I h0 0 (I h1 0)) h1f 0 h0f 0 8) h1w 0 h0w 0 8) h0 3 ((oCpy (oCpy (u2 I h0 0 (I h1 0)) h1f 0 h0f 0 8) h1w 0 h0w 0 8) h1 3)) h1 4), vR h0] (sh, (u2 (oCpy (oCpy (u2 I h0 0 (I h1 0)) h1f 0 h0f 0 8) h1w 0 h0w 0 8) h0 3 ((oCpy (oCpy (u2 I h0 0 (I h1 0)) h1f 0 h0f 0 8) h1w 0 h0w 0 8) h1 3)), L) (0, 0) ?_
  refine And.intro (mem1 Ah0.1) ?_
  refine hK.1 54 [some (vR h0), some (vR h1)] [] (sh, (u2 (u2 (oCpy (oCpy (u2 I h0 0 (I h1 0)) h1f 0 h0f 0 8) h1w 0 h0w 0 8) h0 3 ((oCpy (oCpy (u2 I h0 0 (I h1 0)) h1f 0 h0f 0 8) h1w 0 h0w 0 8) h1 3)) h0 4 ((u2 (oCpy (oCpy (u2 I h0 0 (I h1 0)) h1f 0 h0f 0 8) h1w 0 h0w 0 8) h0 3 ((oCpy (oCpy (u2 I h0 0 (I h1 0)) h1f 0 h0f 0 8) h1w 0 h0w 0 8) h1 3)) h1 4)), L) (0, 0) ?_
  refine hK.1 55 [some (vR h0), some (vR h1)] [vR h0] (sh, (u2 (u2 (oCpy (oCpy (u2 I h0 0 (I h1 0)) h1f 0 h0f 0 8) h1w 0 h0w 0 8) h0 3 ((oCpy (oCpy (u2 I h0 0 (I h1 0)) h1f 0 h0f 0 8) h1w 0 h0w 0 8) h1 3)) h0 4 ((u2 (oCpy (oCpy (u2 I h0 0 (I h1 0)) h1f 0 h0f 0 8) h1w 0 h0w 0 8) h0 3 ((oCpy (oCpy (u2 I h0 0 (I h1 0)) h1f 0 h0f 0 8) h1w 0 h0w 0 8) h1 3)) h1 4)), L) (0, 0) ?_
  refine hK.1 56 [some (vR h0), some (vR h1)] [vR h1, vR h0] (sh, (u2 (u2 (oCpy (oCpy (u2 I h0 0 (I h1 0)) h1f 0 h0f 0 8) h1w 0 h0w 0 8) h0 3 ((oCpy (oCpy (u2 I h0 0 (I h1 0)) h1f 0 h0f 0 8) h1w 0 h0w 0 8) h1 3)) h0 4 ((u2 (oCpy (oCpy (u2 I h0 0 (I h1 0)) h1f 0 h0f 0 8) h1w 0 h0w 0 8) h0 3 ((oCpy (oCpy (u2 I h0 0 (I h1 0)) h1f 0 h0f 0 8) h1w 0 h0w 0 8) h1 3)) h1 4)), L) (0, 0) ?_
  refine And.intro (mem1 Ah1.1) ?_
  refine hK.1 59 [some (vR h0), some (vR h1)] [vI ((u2 (u2 (oCpy (oCpy (u2 I h0 0 (I h1 0)) h1f 0 h0f 0 8) h1w 0 h0w 0 8) h0 3 ((oCpy (oCpy (u2 I h0 0 (I h1 0)) h1f 0 h0f 0 8) h1w 0 h0w 0 8) h1 3)) h0 4 ((u2 (oCpy (oCpy (u2 I h0 0 (I h1 0)) h1f 0 h0f 0 8) h1w 0 h0w 0 8) h0 3 ((oCpy (oCpy (u2 I h0 0 (I h1 0)) h1f 0 h0f 0 8) h1w 0 h0w 0 8) h1 3)) h1 4)) h1 5), vR h0] (sh, (u2 (u2 (oCpy (oCpy (u2 I h0 0 (I h1 0)) h1f 0 h0f 0 8) h1w 0 h0w 0 8) h0 3 ((oCpy (oCpy (u2 I h0 0 (I h1 0)) h1f 0 h0f 0 8) h1w 0 h0w 0 8) h1 3)) h0 4 ((u2 (oCpy (oCpy (u2 I h0 0 (I h1 0)) h1f 0 h0f 0 8) h1w 0 h0w 0 8) h0 3 ((oCpy (oCpy (u2 I h0 0 (I h1 0)) h1f 0 h0f 0 8) h1w 0 h0w 0 8) h1 3)) h1 4)), L) (0, 0) ?_
  refine And.intro (mem1 Ah0.1) ?_
  refine hK.1 62 [some (vR h0), some (vR h1)] [] (sh, (u2 (u2 (u2 (oCpy (oCpy (u2 I h0 0 (I h1 0)) h1f 0 h0f 0 8) h1w 0 h0w 0 8) h0 3 ((oCpy (oCpy (u2 I h0 0 (I h1 0)) h1f 0 h0f 0 8) h1w 0 h0w 0 8) h1 3)) h0 4 ((u2 (oCpy (oCpy (u2 I h0 0 (I h1 0)) h1f 0 h0f 0 8) h1w 0 h0w 0 8) h0 3 ((oCpy (oCpy (u2 I h0 0 (I h1 0)) h1f 0 h0f 0 8) h1w 0 h0w 0 8) h1 3)) h1 4)) h0 5 ((u2 (u2 (oCpy (oCpy (u2 I h0 0 (I h1 0)) h1f 0 h0f 0 8) h1w 0 h0w 0 8) h0 3 ((oCpy (oCpy (u2 I h0 0 (I h1 0)) h1f 0 h0f 0 8) h1w 0 h0w 0 8) h1 3)) h0 4 ((u2 (oCpy (oCpy (u2 I h0 0 (I h1 0)) h1f 0 h0f 0 8) h1w 0 h0w 0 8) h0 3 ((oCpy (oCpy (u2 I h0 0 (I h1 0)) h1f 0 h0f 0 8) h1w 0 h0w 0 8) h1 3)) h1 4)) h1 5)), L) (0, 0) ?_
  refine hK.1 63 [some (vR h0), some (vR h1)] [vR h0] (sh, (u2 (u2 (u2 (oCpy (oCpy (u2 I h0 0 (I h1 0)) h1f 0 h0f 0 8) h1w 0 h0w 0 8) h0 3 ((oCpy (oCpy (u2 I h0 0 (I h1 0)) h1f 0 h0f 0 8) h1w 0 h0w 0 8) h1 3)) h0 4 ((u2 (oCpy (oCpy (u2 I h0 0 (I h1 0)) h1f 0 h0f 0 8) h1w 0 h0w 0 8) h0 3 ((oCpy (oCpy (u2 I h0 0 (I h1 0)) h1f 0 h0f 0 8) h1w 0 h0w 0 8) h1 3)) h1 4)) h0 5 ((u2 (u2 (oCpy (oCpy (u2 I h0 0 (I h1 0)) h1f 0 h0f 0 8) h1w 0 h0w 0 8) h0 3 ((oCpy (oCpy (u2 I h0 0 (I h1 0)) h1f 0 h0f 0 8) h1w 0 h0w 0 8) h1 3)) h0 4 ((u2 (oCpy (oCpy (u2 I h0 0 (I h1 0)) h1f 0 h0f 0 8) h1w 0 h0w 0 8) h0 3 ((oCpy (oCpy (u2 I h0 0 (I h1 0)) h1f 0 h0f 0 8) h1w 0 h0w 0 8) h1 3)) h1 4)) h1 5)), L) (0, 0) ?_
  refine hK.1 64 [some (vR h0), some (vR h1)] [vR h1, vR h0] (sh, (u2 (u2 (u2 (oCpy (oCpy (u2 I h0 0 (I h1 0)) h1f 0 h0f 0 8) h1w 0 h0w 0 8) h0 3 ((oCpy (oCpy (u2 I h0 0 (I h1 0)) h1f 0 h0f 0 8) h1w 0 h0w 0 8) h1 3)) h0 4 ((u2 (oCpy (oCpy (u2 I h0 0 (I h1 0)) h1f 0 h0f 0 8) h1w 0 h0w 0 8) h0 3 ((oCpy (oCpy (u2 I h0 0 (I h1 0)) h1f 0 h0f 0 8) h1w 0 h0w 0 8) h1 3)) h1 4)) h0 5 ((u2 (u2 (oCpy (oCpy (u2 I h0 0 (I h1 0)) h1f 0 h0f 0 8) h1w 0 h0w 0 8) h0 3 ((oCpy (oCpy (u2 I h0 0 (I h1 0)) h1f 0 h0f 0 8) h1w 0 h0w 0 8) h1 3)) h0 4 ((u2 (oCpy (oCpy (u2 I h0 0 (I h1 0)) h1f 0 h0f 0 8) h1w 0 h0w 0 8) h0 3 ((oCpy (oCpy (u2 I h0 0 (I h1 0)) h1f 0 h0f 0 8) h1w 0 h0w 0 8) h1 3)) h1 4)) h1 5)), L) (0, 0) ?_
  refine And.intro (mem1 Ah1.1) ?_
  refine hK.1 67 [some (vR h0), some (vR h1)] [vI ((u2 (u2 (u2 (oCpy (oCpy (u2 I h0 0 (I h1 0)) h1f 0 h0f 0 8) h1w 0 h0w 0 8) h0 3 ((oCpy (oCpy (u2 I h0 0 (I h1 0)) h1f 0 h0f 0 8) h1w 0 h0w 0 8) h1 3)) h0 4 ((u2 (oCpy (oCpy (u2 I h0 0 (I h1 0)) h1f 0 h0f 0 8) h1w 0 h0w 0 8) h0 3 ((oCpy (oCpy (u2 I h0 0 (I h1 0)) h1f 0 h0f 0 8) h1w 0 h0w 0 8) h1 3)) h1 4)) h0 5 ((u2 (u2 (oCpy (oCpy (u2 I h0 0 (I h1 0)) h1f 0 h0f 0 8) h1w 0 h0w 0 8) h0 3 ((oCpy (oCpy (u2 I h0 0 (I h1 0)) h1f 0 h0f 0 8) h1w 0 h0w 0 8) h1 3)) h0 4 ((u2 (oCpy (oCpy (u2 I h0 0 (I h1 0)) h1f 0 h0f 0 8) h1w 0 h0w 0 8) h0 3 ((oCpy (oCpy (u2 I h0 0 (I h1 0)) h1f 0 h0f 0 8) h1w 0 h0w 0 8) h1 3)) h1 4)) h1 5)) h1 6), vR h0] (sh, (u2 (u2 (u2 (oCpy (oCpy (u2 I h0 0 (I h1 0)) h1f 0 h0f 0 8) h1w 0 h0w 0 8) h0 3 ((oCpy (oCpy (u2 I h0 0 (I h1 0)) h1f 0 h0f 0 8) h1w 0 h0w 0 8) h1 3)) h0 4 ((u2 (oCpy (oCpy (u2 I h0 0 (I h1 0)) h1f 0 h0f 0 8) h1w 0 h0w 0 8) h0 3 ((oCpy (oCpy (u2 I h0 0 (I h1 0)) h1f 0 h0f 0 8) h1w 0 h0w 0 8) h1 3)) h1 4)) h0 5 ((u2 (u2 (oCpy (oCpy (u2 I h0 0 (I h1 0)) h1f 0 h0f 0 8) h1w 0 h0w 0 8) h0 3 ((oCpy (oCpy (u2 I h0 0 (I h1 0)) h1f 0 h0f 0 8) h1w 0 h0w 0 8) h1 3)) h0 4 ((u2 (oCpy (oCpy (u2 I h0 0 (I h1 0)) h1f 0 h0f 0 8) h1w 0 h0w 0 8) h0 3 ((oCpy (oCpy (u2 I h0 0 (I h1 0)) h1f 0 h0f 0 8) h1w 0 h0w 0 8) h1 3)) h1 4)) h1 5)), L) (0, 0) ?_
  refine And.intro (mem1 Ah0.1) ?_
  refine hK.1 70 [some (vR h0), some (vR h1)] [] (sh, (u2 (u2 (u2 (u2 (oCpy (oCpy (u2 I h0 0 (I h1 0)) h1f 0 h0f 0 8) h1w 0 h0w 0 8) h0 3 ((oCpy (oCpy (u2 I h0 0 (I h1 0)) h1f 0 h0f 0 8) h1w 0 h0w 0 8) h1 3)) h0 4 ((u2 (oCpy (oCpy (u2 I h0 0 (I h1 0)) h1f 0 h0f 0 8) h1w 0 h0w 0 8) h0 3 ((oCpy (oCpy (u2 I h0 0 (I h1 0)) h1f 0 h0f 0 8) h1w 0 h0w 0 8) h1 3)) h1 4)) h0 5 ((u2 (u2 (oCpy (oCpy (u2 I h0 0 (I h1 0)) h1f 0 h0f 0 8) h1w 0 h0w 0 8) h0 3 ((oCpy (oCpy (u2 I h0 0 (I h1 0)) h1f 0 h0f 0 8) h1w 0 h0w 0 8) h1 3)) h0 4 ((u2 (oCpy (oCpy (u2 I h0 0 (I h1 0)) h1f 0 h0f 0 8) h1w 0 h0w 0 8) h0 3 ((oCpy (oCpy (u2 I h0 0 (I h1 0)) h1f 0 h0f 0 8) h1w 0 h0w 0 8) h1 3)) h1 4)) h1 5)) h0 6 ((u2 (u2 (u2 (oCpy (oCpy (u2 I h0 0 (I h1 0)) h1f 0 h0f 0 8) h1w 0 h0w 0 8) h0 3 ((oCpy (oCpy (u2 I h0 0 (I h1 0)) h1f 0 h0f 0 8) h1w 0 h0w 0 8) h1 3)) h0 4 ((u2 (oCpy (oCpy (u2 I h0 0 (I h1 0)) h1f 0 h0f 0 8) h1w 0 h0w 0 8) h0 3 ((oCpy (oCpy (u2 I h0 0 (I h1 0)) h1f 0 h0f 0 8) h1w 0 h0w 0 8) h1 3)) h1 4)) h0 5 ((u2 (u2 (oCpy (oCpy (u2 I h0 0 (I h1 0)) h1f 0 h0f 0 8) h1w 0 h0w 0 8) h0 3 ((oCpy (oCpy (u2 I h0 0 (I h1 0)) h1f 0 h0f 0 8) h1w 0 h0w 0 8) h1 3)) h0 4 ((u2 (oCpy (oCpy (u2 I h0 0 (I h1 0)) h1f 0 h0f 0 8) h1w 0 h0w 0 8) h0 3 ((oCpy (oCpy (u2 I h0 0 (I h1 0)) h1f 0 h0f 0 8) h1w 0 h0w 0 8) h1 3)) h1 4)) h1 5)) h1 6)), L) (0, 0) ?_
  exact And.intro rfl (And.intro ⟨by decide, by decide⟩ k)
set_option maxRecDepth 4000 in
theorem B_X1_kind_0 {Q : oQ} {K : oK} (hK : oCl tb_X1_kind Q K) {sh : oS} {I : Nat → Nat → Int} {L : Nat → Nat → Int64} {h0 : Nat} (k : Q (some (vI 3)) (sh, I, L)) : K 0 [some (vR h0)] [] (sh, I, L) (0, 0) := by
  refine hK.1 0 [some (vR h0)] [] (sh, I, L) (0, 0) ?_
  refine hK.1 1 [some (vR h0)] [vI 3] (sh, I, L) (0, 0) ?_
  exact And.intro ⟨by decide, by decide⟩ k
set_option maxRecDepth 4000 in
theorem B_X3_kind_0 {Q : oQ} {K : oK} (hK : oCl tb_X3_kind Q K) {sh : oS} {I : Nat → Nat → Int} {L : Nat → Nat → Int64} {h0 : Nat} (k : Q (some (vI 1)) (sh, I, L)) : K 0 [some (vR h0)] [] (sh, I, L) (0, 0) := by
  refine hK.1 0 [some (vR h0)] [] (sh, I, L) (0, 0) ?_
  refine hK.1 1 [some (vR h0)] [vI 1] (sh, I, L) (0, 0) ?_
  exact And.intro ⟨by decide, by decide⟩ k
set_option maxRecDepth 4000 in
theorem B_X5_kind_0 {Q : oQ} {K : oK} (hK : oCl tb_X5_kind Q K) {sh : oS} {I : Nat → Nat → Int} {L : Nat → Nat → Int64} {h0 : Nat} (k : Q (some (vI 2)) (sh, I, L)) : K 0 [some (vR h0)] [] (sh, I, L) (0, 0) := by
  refine hK.1 0 [some (vR h0)] [] (sh, I, L) (0, 0) ?_
  refine hK.1 1 [some (vR h0)] [vI 2] (sh, I, L) (0, 0) ?_
  exact And.intro ⟨by decide, by decide⟩ k
set_option maxRecDepth 4000 in
theorem B_X6_addDays_0 {Q : oQ} {K : oK} (hK : oCl tb_X6_addDays Q K) {sh : oS} {I : Nat → Nat → Int} {L : Nat → Nat → Int64} {h0 : Nat} {x1 : Int} {x2 : Int} {x3 : Int} (k : K 3 [some (vR h0), some (vI x1), some (vI x2), some (vI x3), some (vI 0)] [] (sh, I, L) (0, 0)) : K 0 [some (vR h0), some (vI x1), some (vI x2), some (vI x3), none] [] (sh, I, L) (0, 0) := by
  refine hK.1 0 [some (vR h0), some (vI x1), some (vI x2), some (vI x3), none] [] (sh, I, L) (0, 0) ?_
  refine hK.1 1 [some (vR h0), some (vI x1), some (vI x2), some (vI x3), none] [vI 0] (sh, I, L) (0, 0) ?_
  exact k
set_option maxRecDepth 4000 in
theorem B_X6_addDays_3 {Q : oQ} {K : oK} (hK : oCl tb_X6_addDays Q K) {sh : oS} {I : Nat → Nat → Int} {L : Nat → Nat → Int64} {h0 : Nat} {x1 : Int} {x2 : Int} {x3 : Int} {x4 : Int} (n6a : inR x4) (n6b : inR x2) (kt : x2 ≤ x4 → K 54 [none, none, none, none, none] [] (sh, I, L) (0, 0)) (kf : ¬ (x2 ≤ x4) → K 9 [some (vR h0), some (vI x1), some (vI x2), some (vI x3), some (vI x4)] [] (sh, I, L) (0, 0)) : K 3 [some (vR h0), some (vI x1), some (vI x2), some (vI x3), some (vI x4)] [] (sh, I, L) (0, 0) := by
  refine hK.1 3 [some (vR h0), some (vI x1), some (vI x2), some (vI x3), some (vI x4)] [] (sh, I, L) (0, 0) ?_
  refine hK.1 5 [some (vR h0), some (vI x1), some (vI x2), some (vI x3), some (vI x4)] [vI x4] (sh, I, L) (0, 0) ?_
  refine hK.1 6 [some (vR h0), some (vI x1), some (vI x2), some (vI x3), some (vI x4)] [vI x2, vI x4] (sh, I, L) (0, 0) ?_
  exact And.intro (And.intro n6a n6b) (And.intro (fun h => hK.2 [false, false, false, false, false] _ _ _ _ _ (kt h)) (fun h => hK.2 [true, true, true, true, true] _ _ _ _ _ (kf h)))
set_option maxRecDepth 4000 in
theorem B_X6_addDays_9 {Q : oQ} {K : oK} (hK : oCl tb_X6_addDays Q K) {sh : oS} {I : Nat → Nat → Int} {L : Nat → Nat → Int64} {h0 : Nat} {x1 : Int} {x2 : Int} {x3 : Int} {x4 : Int} {h0e h0p h0t : Nat} (Ah0 : MarchAt sh h0 h0e h0p h0t) (n15a : inR (I h0 0)) (kt : 10 ≤ I h0 0 → K 54 [none, none, none, none, none] [] (sh, I, L) (0, 0)) (kf : ¬ (10 ≤ I h0 0) → K 18 [some (vR h0), some (vI x1), some (vI x2), some (vI x3), some (vI x4)] [] (sh, I, L) (0, 0)) : K 9 [some (vR h0), some (vI x1), some (vI x2), some (vI x3), some (vI x4)] [] (sh, I, L) (0, 0) := by
  refine hK.1 9 [some (vR h0), some (vI x1), some (vI x2), some (vI x3), some (vI x4)] [] (sh, I, L) (0, 0) ?_
  refine hK.1 10 [some (vR h0), some (vI x1), some (vI x2), some (vI x3), some (vI x4)] [vR h0] (sh, I, L) (0, 0) ?_
  refine And.intro (mem1 Ah0.1) ?_
  refine hK.1 13 [some (vR h0), some (vI x1), some (vI x2), some (vI x3), some (vI x4)] [vI (I h0 0)] (sh, I, L) (0, 0) ?_
  refine hK.1 15 [some (vR h0), some (vI x1), some (vI x2), some (vI x3), some (vI x4)] [vI 10, vI (I h0 0)] (sh, I, L) (0, 0) ?_
  exact And.intro (And.intro n15a ⟨by decide, by decide⟩) (And.intro (fun h => hK.2 [false, false, false, false, false] _ _ _ _ _ (kt h)) (fun h => hK.2 [true, true, true, true, true] _ _ _ _ _ (kf h)))
set_option maxRecDepth 4000 in
theorem B_X6_addDays_18 {Q : oQ} {K : oK} (hK : oCl tb_X6_addDays Q K) {sh : oS} {I : Nat → Nat → Int} {L : Nat → Nat → Int64} {h0 : Nat} {x1 : Int} {x2 : Int} {x3 : Int} {x4 : Int} {h0e h0p h0t : Nat} (Ah0 : MarchAt sh h0 h0e h0p h0t) (b27 : 0 ≤ I h0 0 ∧ I h0 0 < 10) (b37 : 0 ≤ (u2 I h0p ((I h0 0).toNat) x1) h0 0 ∧ (u2 I h0p ((I h0 0).toNat) x1) h0 0 < 10) (k : K 3 [some (vR h0), some (vI x1), some (vI x2), some (vI x3), some (vI (x4 + 1))] [] (sh, (u2 (u2 (u2 I h0p ((I h0 0).toNat) x1) h0e (((u2 I h0p ((I h0 0).toNat) x1) h0 0).toNat) x3) h0 0 (((u2 (u2 I h0p ((I h0 0).toNat) x1) h0e (((u2 I h0p ((I h0 0).toNat) x1) h0 0).toNat) x3) h0 0) + 1)), L) (0, 0)) : K 18 [some (vR h0), some (vI x1), some (vI x2), some (vI x3), some (vI x4)] [] (sh, I, L) (0, 0) := by
  refine hK.1 18 [some (vR h0), some (vI x1), some (vI x2), some (vI x3), some (vI x4)] [] (sh, I, L) (0, 0) ?_
  refine hK.1 19 [some (vR h0), some (vI x1), some (vI x2), some (vI x3), some (vI x4)] [vR h0] (sh, I, L) (0, 0) ?_
  refine And.intro (mem1 Ah0.1) (Exists.intro h0p (And.intro Ah0.2.2.1 ?_))
  refine hK.1 22 [some (vR h0), some (vI x1), some (vI x2), some (vI x3), some (vI x4)] [vR h0p] (sh, I, L) (0, 0) ?_
  refine hK.1 23 [some (vR h0), some (vI x1), some (vI x2), some (vI x3), some (vI x4)] [vR h0, vR h0p] (sh, I, L) (0, 0) ?_
  refine And.intro (mem1 Ah0.1) ?_
  refine hK.1 26 [some (vR h0), some (vI x1), some (vI x2), some (vI x3), some (vI x4)] [vI (I h0 0), vR h0p] (sh, I, L) (0, 0) ?_
  refine hK.1 27 [some (vR h0), some (vI x1), some (vI x2), some (vI x3), some (vI x4)] [vI x1, vI (I h0 0), vR h0p] (sh, I, L) (0, 0) ?_
  refine And.intro (And.intro (Ah0.2.2.2.2.2.1.1) (ixL (Ah0.2.2.2.2.2.1.2) b27)) ?_
  refine hK.1 28 [some (vR h0), some (vI x1), some (vI x2), some (vI x3), some (vI x4)] [] (sh, (u2 I h0p ((I h0 0).toNat) x1), L) (0, 0) ?_
  refine hK.1 29 [some (vR h0), some (vI x1), some (vI x2), some (vI x3), some (vI x4)] [vR h0] (sh, (u2 I h0p ((I h0 0).toNat) x1), L) (0, 0) ?_
  refine And.intro (mem1 Ah0.1) (Exists.intro h0e (And.intro Ah0.2.1 ?_))
  refine hK.1 32 [some (vR h0), some (vI x1), some (vI x2), some (vI x3), some (vI x4)] [vR h0e] (sh, (u2 I h0p ((I h0 0).toNat) x1), L) (0, 0) ?_
  refine hK.1 33 [some (vR h0), some (vI x1), some (vI x2), some (vI x3), some (vI x4)] [vR h0, vR h0e] (sh, (u2 I h0p ((I h0 0).toNat) x1), L) (0, 0) ?_
  refine And.intro (mem1 Ah0.1) ?_
  refine hK.1 36 [some (vR h0), some (vI x1), some (vI x2), some (vI x3), some (vI x4)] [vI ((u2 I h0p ((I h0 0).toNat) x1) h0 0), vR h0e] (sh, (u2 I h0p ((I h0 0).toNat) x1), L) (0, 0) ?_
  refine hK.1 37 [some (vR h0), some (vI x1), some (vI x2), some (vI x3), some (vI x4)] [vI x3, vI ((u2 I h0p ((I h0 0).toNat) x1) h0 0), vR h0e] (sh, (u2 I h0p ((I h0 0).toNat) x1), L) (0, 0) ?_
  refine And.intro (And.intro (Ah0.2.2.2.2.1.1) (ixL (Ah0.2.2.2.2.1.2) b37)) ?_
  refine hK.1 38 [some (vR h0), some (vI x1), some (vI x2), some (vI x3), some (vI x4)] [] (sh, (u2 (u2 I h0p ((I h0 0).toNat) x1) h0e (((u2 I h0p ((I h0 0).toNat) x1) h0 0).toNat) x3), L) (0, 0) ?_
  refine hK.1 39 [some (vR h0), some (vI x1), some (vI x2), some (vI x3), some (vI x4)] [vR h0] (sh, (u2 (u2 I h0p ((I h0 0).toNat) x1) h0e (((u2 I h0p ((I h0 0).toNat) x1) h0 0).toNat) x3), L) (0, 0) ?_
  refine hK.1 40 [some (vR h0), some (vI x1), some (vI x2), some (vI x3), some (vI x4)] [vR h0, vR h0] (sh, (u2 (u2 I h0p ((I h0 0).toNat) x1) h0e (((u2 I h0p ((I h0 0).toNat) x1) h0 0).toNat) x3), L) (0, 0) ?_
  refine And.intro (mem1 Ah0.1) ?_
  refine hK.1 43 [some (vR h0), some (vI x1), some (vI x2), some (vI x3), some (vI x4)] [vI ((u2 (u2 I h0p ((I h0 0).toNat) x1) h0e (((u2 I h0p ((I h0 0).toNat) x1) h0 0).toNat) x3) h0 0), vR h0] (sh, (u2 (u2 I h0p ((I h0 0).toNat) x1) h0e (((u2 I h0p ((I h0 0).toNat) x1) h0 0).toNat) x3), L) (0, 0) ?_
  refine hK.1 44 [some (vR h0), some (vI x1), some (vI x2), some (vI x3), some (vI x4)] [vI 1, vI ((u2 (u2 I h0p ((I h0 0).toNat) x1) h0e (((u2 I h0p ((I h0 0).toNat) x1) h0 0).toNat) x3) h0 0), vR h0] (sh, (u2 (u2 I h0p ((I h0 0).toNat) x1) h0e (((u2 I h0p ((I h0 0).toNat) x1) h0 0).toNat) x3), L) (0, 0) ?_
  refine hK.1 45 [some (vR h0), some (vI x1), some (vI x2), some (vI x3), some (vI x4)] [vI (((u2 (u2 I h0p ((I h0 0).toNat) x1) h0e (((u2 I h0p ((I h0 0).toNat) x1) h0 0).toNat) x3) h0 0) + 1), vR h0] (sh, (u2 (u2 I h0p ((I h0 0).toNat) x1) h0e (((u2 I h0p ((I h0 0).toNat) x1) h0 0).toNat) x3), L) (0, 0) ?_
  refine And.intro (mem1 Ah0.1) ?_
  refine hK.1 48 [some (vR h0), some (vI x1), some (vI x2), some (vI x3), some (vI x4)] [] (sh, (u2 (u2 (u2 I h0p ((I h0 0).toNat) x1) h0e (((u2 I h0p ((I h0 0).toNat) x1) h0 0).toNat) x3) h0 0 (((u2 (u2 I h0p ((I h0 0).toNat) x1) h0e (((u2 I h0p ((I h0 0).toNat) x1) h0 0).toNat) x3) h0 0) + 1)), L) (0, 0) ?_
  refine hK.1 51 [some (vR h0), some (vI x1), some (vI x2), some (vI x3), some (vI (x4 + 1))] [] (sh, (u2 (u2 (u2 I h0p ((I h0 0).toNat) x1) h0e (((u2 I h0p ((I h0 0).toNat) x1) h0 0).toNat) x3) h0 0 (((u2 (u2 I h0p ((I h0 0).toNat) x1) h0e (((u2 I h0p ((I h0 0).toNat) x1) h0 0).toNat) x3) h0 0) + 1)), L) (0, 0) ?_
  exact k
set_option maxRecDepth 4000 in
theorem B_X6_addDays_54 {Q : oQ} {K : oK} (hK : oCl tb_X6_addDays Q K) {sh : oS} {I : Nat → Nat → Int} {L : Nat → Nat → Int64}  (k : Q none (sh, I, L)) : K 54 [none, none, none, none, none] [] (sh, I, L) (0, 0) := by
  refine hK.1 54 [none, none, none, none, none] [] (sh, I, L) (0, 0) ?_
  exact And.intro rfl (And.intro ⟨by decide, by decide⟩ k)
set_option maxRecDepth 4000 in
theorem B_X6_goForward_0 {Q : oQ} {K : oK} (hK : oCl tb_X6_goForward Q K) {sh : oS} {I : Nat → Nat → Int} {L : Nat → Nat → Int64} {h0 : Nat} {x1 : Int} {x2 : Int} {h0e h0p h0t : Nat} (Ah0 : MarchAt sh h0 h0e h0p h0t) (k : T_X6_addDays [vR h0, vI 1, vI x1, vI x2] (sh, (u2 (u2 I h0 0 0) h0 1 0), L) (fun r mm => K 17 [none, none, none] (r.toList ++ []) mm (0, 0))) : K 0 [some (vR h0), some (vI x1), some (vI x2)] [] (sh, I, L) (0, 0) := by
  refine hK.1 0 [some (vR h0), some (vI x1), some (vI x2)] [] (sh, I, L) (0, 0) ?_
  refine hK.1 1 [some (vR h0), some (vI x1), some (vI x2)] [vR h0] (sh, I, L) (0, 0) ?_
  refine hK.1 2 [some (vR h0), some (vI x1), some (vI x2)] [vI 0, vR h0] (sh, I, L) (0, 0) ?_
  refine And.intro (mem1 Ah0.1) ?_
  refine hK.1 5 [some (vR h0), some (vI x1), some (vI x2)] [] (sh, (u2 I h0 0 0), L) (0, 0) ?_
  refine hK.1 6 [some (vR h0), some (vI x1), some (vI x2)] [vR h0] (sh, (u2 I h0 0 0), L) (0, 0) ?_
  refine hK.1 7 [some (vR h0), some (vI x1), some (vI x2)] [vI 0, vR h0] (sh, (u2 I h0 0 0), L) (0, 0) ?_
  refine And.intro (mem1 Ah0.1) ?_
  refine hK.1 10 [some (vR h0), some (vI x1), some (vI x2)] [] (sh, (u2 (u2 I h0 0 0) h0 1 0), L) (0, 0) ?_
  refine hK.1 11 [some (vR h0), some (vI x1), some (vI x2)] [vR h0] (sh, (u2 (u2 I h0 0 0) h0 1 0), L) (0, 0) ?_
  refine hK.1 12 [some (vR h0), some (vI x1), some (vI x2)] [vI 1, vR h0] (sh, (u2 (u2 I h0 0 0) h0 1 0), L) (0, 0) ?_
  refine hK.1 13 [some (vR h0), some (vI x1), some (vI x2)] [vI x1, vI 1, vR h0] (sh, (u2 (u2 I h0 0 0) h0 1 0), L) (0, 0) ?_
  refine hK.2 [false, false, false] _ _ _ _ _ ?_
  refine hK.1 14 [none, none, none] [vI x2, vI x1, vI 1, vR h0] (sh, (u2 (u2 I h0 0 0) h0 1 0), L) (0, 0) ?_
  exact And.intro ⟨Ah0.1, Nat.le_of_ble_eq_true rfl, Nat.le_of_ble_eq_true rfl, Nat.le_of_ble_eq_true rfl, Nat.le_of_ble_eq_true rfl⟩ k
set_option maxRecDepth 4000 in
theorem B_X6_goForward_17 {Q : oQ} {K : oK} (hK : oCl tb_X6_goForward Q K) {sh : oS} {I : Nat → Nat → Int} {L : Nat → Nat → Int64}  (k : Q none (sh, I, L)) : K 17 [none, none, none] [] (sh, I, L) (0, 0) := by
  refine hK.1 17 [none, none, none] [] (sh, I, L) (0, 0) ?_
  exact And.intro rfl (And.intro ⟨by decide, by decide⟩ k)
set_option maxRecDepth 4000 in
theorem B_X2_firstLack_0 {Q : oQ} {K : oK} (hK : oCl tb_X2_firstLack Q K) {sh : oS} (hs : Sh sh) {I : Nat → Nat → Int} {L : Nat → Nat → Int64} {h1 : Nat} {h2 : Nat} {x3 : Int} {x4 : Int} (k : T_X7_clear [vR 31, vI 20, vI 0] (sh, I, L) (fun r mm => K 10 [some (vR 24), some (vR h1), some (vR h2), some (vI x3), some (vI x4), none, none] (r.toList ++ []) mm (0, 0))) : K 0 [some (vR 24), some (vR h1), some (vR h2), some (vI x3), some (vI x4), none, none] [] (sh, I, L) (0, 0) := by
  refine hK.1 0 [some (vR 24), some (vR h1), some (vR h2), some (vI x3), some (vI x4), none, none] [] (sh, I, L) (0, 0) ?_
  refine hK.1 1 [some (vR 24), some (vR h1), some (vR h2), some (vI x3), some (vI x4), none, none] [vR 24] (sh, I, L) (0, 0) ?_
  refine And.intro (mem1 (sk_24 hs)) (Exists.intro 31 (And.intro (sr_24_3 hs) ?_))
  refine hK.1 4 [some (vR 24), some (vR h1), some (vR h2), some (vI x3), some (vI x4), none, none] [vR 31] (sh, I, L) (0, 0) ?_
  refine hK.1 6 [some (vR 24), some (vR h1), some (vR h2), some (vI x3), some (vI x4), none, none] [vI 20, vR 31] (sh, I, L) (0, 0) ?_
  refine hK.1 7 [some (vR 24), some (vR h1), some (vR h2), some (vI x3), some (vI x4), none, none] [vI 0, vI 20, vR 31] (sh, I, L) (0, 0) ?_
  exact And.intro ⟨(sk_31 hs), Nat.le_of_ble_eq_true rfl, Nat.le_of_ble_eq_true rfl, Nat.le_of_ble_eq_true rfl, Nat.le_of_ble_eq_true rfl⟩ k
set_option maxRecDepth 4000 in
theorem B_X2_firstLack_10 {Q : oQ} {K : oK} (hK : oCl tb_X2_firstLack Q K) {sh : oS} (hs : Sh sh) {I : Nat → Nat → Int} {L : Nat → Nat → Int64} {h1 : Nat} {h2 : Nat} {x3 : Int} {x4 : Int} (k : T_X2_lay [vR 24, vR h1, vR h2, vI x3, vI 0] (sh, I, L) (fun r mm => K 18 [some (vR 24), none, some (vR h2), none, some (vI x4), none, none] (r.toList ++ []) mm (0, 0))) : K 10 [some (vR 24), some (vR h1), some (vR h2), some (vI x3), some (vI x4), none, none] [] (sh, I, L) (0, 0) := by
  refine hK.1 10 [some (vR 24), some (vR h1), some (vR h2), some (vI x3), some (vI x4), none, none] [] (sh, I, L) (0, 0) ?_
  refine hK.1 11 [some (vR 24), some (vR h1), some (vR h2), some (vI x3), some (vI x4), none, none] [vR 24] (sh, I, L) (0, 0) ?_
  refine hK.1 12 [some (vR 24), some (vR h1), some (vR h2), some (vI x3), some (vI x4), none, none] [vR h1, vR 24] (sh, I, L) (0, 0) ?_
  refine hK.1 13 [some (vR 24), some (vR h1), some (vR h2), some (vI x3), some (vI x4), none, none] [vR h2, vR h1, vR 24] (sh, I, L) (0, 0) ?_
  refine hK.1 14 [some (vR 24), some (vR h1), some (vR h2), some (vI x3), some (vI x4), none, none] [vI x3, vR h2, vR h1, vR 24] (sh, I, L) (0, 0) ?_
  refine hK.2 [true, false, true, false, true, false, false] _ _ _ _ _ ?_
  refine hK.1 15 [some (vR 24), none, some (vR h2), none, some (vI x4), none, none] [vI 0, vI x3, vR h2, vR h1, vR 24] (sh, I, L) (0, 0) ?_
  exact And.intro ⟨(sk_24 hs), Nat.le_of_ble_eq_true rfl, Nat.le_of_ble_eq_true rfl, Nat.le_of_ble_eq_true rfl, Nat.le_of_ble_eq_true rfl⟩ k
set_option maxRecDepth 4000 in
theorem B_X2_firstLack_18 {Q : oQ} {K : oK} (hK : oCl tb_X2_firstLack Q K) {sh : oS} {I : Nat → Nat → Int} {L : Nat → Nat → Int64} {h2 : Nat} {x4 : Int} (k : K 24 [some (vR 24), none, some (vR h2), none, some (vI x4), some (vI 0), some (vI 0)] [] (sh, I, L) (0, 0)) : K 18 [some (vR 24), none, some (vR h2), none, some (vI x4), none, none] [] (sh, I, L) (0, 0) := by
  refine hK.1 18 [some (vR 24), none, some (vR h2), none, some (vI x4), none, none] [] (sh, I, L) (0, 0) ?_
  refine hK.1 19 [some (vR 24), none, some (vR h2), none, some (vI x4), none, none] [vI 0] (sh, I, L) (0, 0) ?_
  refine hK.1 21 [some (vR 24), none, some (vR h2), none, some (vI x4), some (vI 0), none] [] (sh, I, L) (0, 0) ?_
  refine hK.1 22 [some (vR 24), none, some (vR h2), none, some (vI x4), some (vI 0), none] [vI 0] (sh, I, L) (0, 0) ?_
  exact k
set_option maxRecDepth 4000 in
theorem B_X2_firstLack_24 {Q : oQ} {K : oK} (hK : oCl tb_X2_firstLack Q K) {sh : oS} {I : Nat → Nat → Int} {L : Nat → Nat → Int64} {h2 : Nat} {x4 : Int} {x5 : Int} {x6 : Int} {h2e h2p h2t : Nat} (Ah2 : MarchAt sh h2 h2e h2p h2t) (n30a : inR x6) (n30b : inR (I h2 0)) (kt : I h2 0 ≤ x6 → K 97 [none, none, none, none, none, none, none] [] (sh, I, L) (0, 0)) (kf : ¬ (I h2 0 ≤ x6) → K 33 [some (vR 24), none, some (vR h2), none, some (vI x4), some (vI x5), some (vI x6)] [] (sh, I, L) (0, 0)) : K 24 [some (vR 24), none, some (vR h2), none, some (vI x4), some (vI x5), some (vI x6)] [] (sh, I, L) (0, 0) := by
  refine hK.1 24 [some (vR 24), none, some (vR h2), none, some (vI x4), some (vI x5), some (vI x6)] [] (sh, I, L) (0, 0) ?_
  refine hK.1 26 [some (vR 24), none, some (vR h2), none, some (vI x4), some (vI x5), some (vI x6)] [vI x6] (sh, I, L) (0, 0) ?_
  refine hK.1 27 [some (vR 24), none, some (vR h2), none, some (vI x4), some (vI x5), some (vI x6)] [vR h2, vI x6] (sh, I, L) (0, 0) ?_
  refine And.intro (mem1 Ah2.1) ?_
  refine hK.1 30 [some (vR 24), none, some (vR h2), none, some (vI x4), some (vI x5), some (vI x6)] [vI (I h2 0), vI x6] (sh, I, L) (0, 0) ?_
  exact And.intro (And.intro n30a n30b) (And.intro (fun h => hK.2 [false, false, false, false, false, false, false] _ _ _ _ _ (kt h)) (fun h => hK.2 [true, false, true, false, true, true, true] _ _ _ _ _ (kf h)))
set_option maxRecDepth 4000 in
theorem B_X2_firstLack_33 {Q : oQ} {K : oK} (hK : oCl tb_X2_firstLack Q K) {sh : oS} (hs : Sh sh) {I : Nat → Nat → Int} {L : Nat → Nat → Int64} {h2 : Nat} {x4 : Int} {x5 : Int} {x6 : Int} {h2e h2p h2t : Nat} (Ah2 : MarchAt sh h2 h2e h2p h2t) (b41 : 0 ≤ x6 ∧ x6 < 10) (k : T_X7_edge [vR 31, vI (10 + x6), vI 1, vI (I h2e (x6.toNat)), vI 0] (sh, I, L) (fun r mm => K 66 [some (vR 24), none, some (vR h2), none, some (vI x4), some (vI (x5 + (I h2e (x6.toNat)))), some (vI x6)] (r.toList ++ []) mm (0, 0))) : K 33 [some (vR 24), none, some (vR h2), none, some (vI x4), some (vI x5), some (vI x6)] [] (sh, I, L) (0, 0) := by
  refine hK.1 33 [some (vR 24), none, some (vR h2), none, some (vI x4), some (vI x5), some (vI x6)] [] (sh, I, L) (0, 0) ?_
  refine hK.1 35 [some (vR 24), none, some (vR h2), none, some (vI x4), some (vI x5), some (vI x6)] [vI x5] (sh, I, L) (0, 0) ?_
  refine hK.1 36 [some (vR 24), none, some (vR h2), none, some (vI x4), some (vI x5), some (vI x6)] [vR h2, vI x5] (sh, I, L) (0, 0) ?_
  refine And.intro (mem1 Ah2.1) (Exists.intro h2e (And.intro Ah2.2.1 ?_))
  refine hK.1 39 [some (vR 24), none, some (vR h2), none, some (vI x4), some (vI x5), some (vI x6)] [vR h2e, vI x5] (sh, I, L) (0, 0) ?_
  refine hK.1 41 [some (vR 24), none, some (vR h2), none, some (vI x4), some (vI x5), some (vI x6)] [vI x6, vR h2e, vI x5] (sh, I, L) (0, 0) ?_
  refine And.intro (And.intro (Ah2.2.2.2.2.1.1) (ixL (Ah2.2.2.2.2.1.2) b41)) ?_
  refine hK.1 42 [some (vR 24), none, some (vR h2), none, some (vI x4), some (vI x5), some (vI x6)] [vI (I h2e (x6.toNat)), vI x5] (sh, I, L) (0, 0) ?_
  refine hK.1 43 [some (vR 24), none, some (vR h2), none, some (vI x4), some (vI x5), some (vI x6)] [vI (x5 + (I h2e (x6.toNat)))] (sh, I, L) (0, 0) ?_
  refine hK.1 45 [some (vR 24), none, some (vR h2), none, some (vI x4), some (vI (x5 + (I h2e (x6.toNat)))), some (vI x6)] [] (sh, I, L) (0, 0) ?_
  refine hK.1 46 [some (vR 24), none, some (vR h2), none, some (vI x4), some (vI (x5 + (I h2e (x6.toNat)))), some (vI x6)] [vR 24] (sh, I, L) (0, 0) ?_
  refine And.intro (mem1 (sk_24 hs)) (Exists.intro 31 (And.intro (sr_24_3 hs) ?_))
  refine hK.1 49 [some (vR 24), none, some (vR h2), none, some (vI x4), some (vI (x5 + (I h2e (x6.toNat)))), some (vI x6)] [vR 31] (sh, I, L) (0, 0) ?_
  refine hK.1 51 [some (vR 24), none, some (vR h2), none, some (vI x4), some (vI (x5 + (I h2e (x6.toNat)))), some (vI x6)] [vI 10, vR 31] (sh, I, L) (0, 0) ?_
  refine hK.1 53 [some (vR 24), none, some (vR h2), none, some (vI x4), some (vI (x5 + (I h2e (x6.toNat)))), some (vI x6)] [vI x6, vI 10, vR 31] (sh, I, L) (0, 0) ?_
  refine hK.1 54 [some (vR 24), none, some (vR h2), none, some (vI x4), some (vI (x5 + (I h2e (x6.toNat)))), some (vI x6)] [vI (10 + x6), vR 31] (sh, I, L) (0, 0) ?_
  refine hK.1 55 [some (vR 24), none, some (vR h2), none, some (vI x4), some (vI (x5 + (I h2e (x6.toNat)))), some (vI x6)] [vI 1, vI (10 + x6), vR 31] (sh, I, L) (0, 0) ?_
  refine hK.1 56 [some (vR 24), none, some (vR h2), none, some (vI x4), some (vI (x5 + (I h2e (x6.toNat)))), some (vI x6)] [vR h2, vI 1, vI (10 + x6), vR 31] (sh, I, L) (0, 0) ?_
  refine And.intro (mem1 Ah2.1) (Exists.intro h2e (And.intro Ah2.2.1 ?_))
  refine hK.1 59 [some (vR 24), none, some (vR h2), none, some (vI x4), some (vI (x5 + (I h2e (x6.toNat)))), some (vI x6)] [vR h2e, vI 1, vI (10 + x6), vR 31] (sh, I, L) (0, 0) ?_
  refine hK.1 61 [some (vR 24), none, some (vR h2), none, some (vI x4), some (vI (x5 + (I h2e (x6.toNat)))), some (vI x6)] [vI x6, vR h2e, vI 1, vI (10 + x6), vR 31] (sh, I, L) (0, 0) ?_
  refine And.intro (And.intro (Ah2.2.2.2.2.1.1) (ixL (Ah2.2.2.2.2.1.2) b41)) ?_
  refine hK.1 62 [some (vR 24), none, some (vR h2), none, some (vI x4), some (vI (x5 + (I h2e (x6.toNat)))), some (vI x6)] [vI (I h2e (x6.toNat)), vI 1, vI (10 + x6), vR 31] (sh, I, L) (0, 0) ?_
  refine hK.1 63 [some (vR 24), none, some (vR h2), none, some (vI x4), some (vI (x5 + (I h2e (x6.toNat)))), some (vI x6)] [vI 0, vI (I h2e (x6.toNat)), vI 1, vI (10 + x6), vR 31] (sh, I, L) (0, 0) ?_
  exact And.intro ⟨(sk_31 hs), Nat.le_of_ble_eq_true rfl, Nat.le_of_ble_eq_true rfl, Nat.le_of_ble_eq_true rfl, Nat.le_of_ble_eq_true rfl⟩ k
set_option maxRecDepth 4000 in
theorem B_X2_firstLack_66 {Q : oQ} {K : oK} (hK : oCl tb_X2_firstLack Q K) {sh : oS} (hs : Sh sh) {I : Nat → Nat → Int} {L : Nat → Nat → Int64} {h2 : Nat} {x4 : Int} {x5 : Int} {x6 : Int} (k : T_X7_fill [vR 31] (sh, I, L) (fun r mm => K 73 [some (vR 24), none, some (vR h2), none, some (vI x4), some (vI x5), some (vI x6)] (r.toList ++ []) mm (0, 0))) : K 66 [some (vR 24), none, some (vR h2), none, some (vI x4), some (vI x5), some (vI x6)] [] (sh, I, L) (0, 0) := by
  refine hK.1 66 [some (vR 24), none, some (vR h2), none, some (vI x4), some (vI x5), some (vI x6)] [] (sh, I, L) (0, 0) ?_
  refine hK.1 67 [some (vR 24), none, some (vR h2), none, some (vI x4), some (vI x5), some (vI x6)] [vR 24] (sh, I, L) (0, 0) ?_
  refine And.intro (mem1 (sk_24 hs)) (Exists.intro 31 (And.intro (sr_24_3 hs) ?_))
  refine hK.1 70 [some (vR 24), none, some (vR h2), none, some (vI x4), some (vI x5), some (vI x6)] [vR 31] (sh, I, L) (0, 0) ?_
  exact And.intro ⟨(sk_31 hs), Nat.le_of_ble_eq_true rfl, Nat.le_of_ble_eq_true rfl, Nat.le_of_ble_eq_true rfl, Nat.le_of_ble_eq_true rfl⟩ k
set_option maxRecDepth 4000 in
theorem B_X2_firstLack_73 {Q : oQ} {K : oK} (hK : oCl tb_X2_firstLack Q K) {sh : oS} (hs : Sh sh) {I : Nat → Nat → Int} {L : Nat → Nat → Int64} {h2 : Nat} {x4 : Int} {x5 : Int} {x6 : Int} (n85a : inR (x5 - (I 31 11))) (n85b : inR x4) (kt : x5 - (I 31 11) ≤ x4 → K 91 [some (vR 24), none, some (vR h2), none, some (vI x4), some (vI x5), some (vI x6)] [] (sh, I, L) (0, 0)) (kf : ¬ (x5 - (I 31 11) ≤ x4) → K 88 [none, none, none, none, none, none, some (vI x6)] [] (sh, I, L) (0, 0)) : K 73 [some (vR 24), none, some (vR h2), none, some (vI x4), some (vI x5), some (vI x6)] [] (sh, I, L) (0, 0) := by
  refine hK.1 73 [some (vR 24), none, some (vR h2), none, some (vI x4), some (vI x5), some (vI x6)] [] (sh, I, L) (0, 0) ?_
  refine hK.1 75 [some (vR 24), none, some (vR h2), none, some (vI x4), some (vI x5), some (vI x6)] [vI x5] (sh, I, L) (0, 0) ?_
  refine hK.1 76 [some (vR 24), none, some (vR h2), none, some (vI x4), some (vI x5), some (vI x6)] [vR 24, vI x5] (sh, I, L) (0, 0) ?_
  refine And.intro (mem1 (sk_24 hs)) (Exists.intro 31 (And.intro (sr_24_3 hs) ?_))
  refine hK.1 79 [some (vR 24), none, some (vR h2), none, some (vI x4), some (vI x5), some (vI x6)] [vR 31, vI x5] (sh, I, L) (0, 0) ?_
  refine And.intro (mem1 (sk_31 hs)) ?_
  refine hK.1 82 [some (vR 24), none, some (vR h2), none, some (vI x4), some (vI x5), some (vI x6)] [vI (I 31 11), vI x5] (sh, I, L) (0, 0) ?_
  refine hK.1 83 [some (vR 24), none, some (vR h2), none, some (vI x4), some (vI x5), some (vI x6)] [vI (x5 - (I 31 11))] (sh, I, L) (0, 0) ?_
  refine hK.1 85 [some (vR 24), none, some (vR h2), none, some (vI x4), some (vI x5), some (vI x6)] [vI x4, vI (x5 - (I 31 11))] (sh, I, L) (0, 0) ?_
  exact And.intro (And.intro n85a n85b) (And.intro (fun h => hK.2 [true, false, true, false, true, true, true] _ _ _ _ _ (kt h)) (fun h => hK.2 [false, false, false, false, false, false, true] _ _ _ _ _ (kf h)))
set_option maxRecDepth 4000 in
theorem B_X2_firstLack_88 {Q : oQ} {K : oK} (hK : oCl tb_X2_firstLack Q K) {sh : oS} {I : Nat → Nat → Int} {L : Nat → Nat → Int64} {x6 : Int} (k : Q (some (vI x6)) (sh, I, L)) : K 88 [none, none, none, none, none, none, some (vI x6)] [] (sh, I, L) (0, 0) := by
  refine hK.1 88 [none, none, none, none, none, none, some (vI x6)] [] (sh, I, L) (0, 0) ?_
  refine hK.1 90 [none, none, none, none, none, none, some (vI x6)] [vI x6] (sh, I, L) (0, 0) ?_
  exact And.intro ⟨by decide, by decide⟩ k
set_option maxRecDepth 4000 in
theorem B_X2_firstLack_91 {Q : oQ} {K : oK} (hK : oCl tb_X2_firstLack Q K) {sh : oS} {I : Nat → Nat → Int} {L : Nat → Nat → Int64} {h2 : Nat} {x4 : Int} {x5 : Int} {x6 : Int} (k : K 24 [some (vR 24), none, some (vR h2), none, some (vI x4), some (vI x5), some (vI (x6 + 1))] [] (sh, I, L) (0, 0)) : K 91 [some (vR 24), none, some (vR h2), none, some (vI x4), some (vI x5), some (vI x6)] [] (sh, I, L) (0, 0) := by
  refine hK.1 91 [some (vR 24), none, some (vR h2), none, some (vI x4), some (vI x5), some (vI x6)] [] (sh, I, L) (0, 0) ?_
  refine hK.1 94 [some (vR 24), none, some (vR h2), none, some (vI x4), some (vI x5), some (vI (x6 + 1))] [] (sh, I, L) (0, 0) ?_
  exact k
set_option maxRecDepth 4000 in
theorem B_X2_firstLack_97 {Q : oQ} {K : oK} (hK : oCl tb_X2_firstLack Q K) {sh : oS} {I : Nat → Nat → Int} {L : Nat → Nat → Int64}  (k : Q (some (vI (-1))) (sh, I, L)) : K 97 [none, none, none, none, none, none, none] [] (sh, I, L) (0, 0) := by
  refine hK.1 97 [none, none, none, none, none, none, none] [] (sh, I, L) (0, 0) ?_
  refine hK.1 98 [none, none, none, none, none, none, none] [vI (-1)] (sh, I, L) (0, 0) ?_
  exact And.intro ⟨by decide, by decide⟩ k
set_option maxRecDepth 4000 in
theorem B_X4_readPlaces_0 {Q : oQ} {K : oK} (hK : oCl tb_X4_readPlaces Q K) {sh : oS} {I : Nat → Nat → Int} {L : Nat → Nat → Int64} {h0 : Nat} {h0f h0w : Nat} (Ah0 : LandAt sh h0 h0f h0w) (k : K 7 [some (vR h0), some (vR 1), some (vI 0), none] [] (sh, (u2 I h0 0 0), L) (0, 0)) : K 0 [some (vR h0), some (vR 1), none, none] [] (sh, I, L) (0, 0) := by
  refine hK.1 0 [some (vR h0), some (vR 1), none, none] [] (sh, I, L) (0, 0) ?_
  refine hK.1 1 [some (vR h0), some (vR 1), none, none] [vR h0] (sh, I, L) (0, 0) ?_
  refine hK.1 2 [some (vR h0), some (vR 1), none, none] [vI 0, vR h0] (sh, I, L) (0, 0) ?_
  refine And.intro (mem1 Ah0.1) ?_
  refine hK.1 5 [some (vR h0), some (vR 1), none, none] [] (sh, (u2 I h0 0 0), L) (0, 0) ?_
  refine hK.1 6 [some (vR h0), some (vR 1), none, none] [vI 0] (sh, (u2 I h0 0 0), L) (0, 0) ?_
  exact k
set_option maxRecDepth 4000 in
theorem B_X4_readPlaces_7 {Q : oQ} {K : oK} (hK : oCl tb_X4_readPlaces Q K) {sh : oS} {I : Nat → Nat → Int} {L : Nat → Nat → Int64} {h0 : Nat} {x2 : Int} (n10a : inR x2) (kt : 8 ≤ x2 → K 82 [some (vR h0), none, none, none] [] (sh, I, L) (0, 0)) (kf : ¬ (8 ≤ x2) → K 13 [some (vR h0), some (vR 1), some (vI x2), none] [] (sh, I, L) (0, 0)) : K 7 [some (vR h0), some (vR 1), some (vI x2), none] [] (sh, I, L) (0, 0) := by
  refine hK.1 7 [some (vR h0), some (vR 1), some (vI x2), none] [] (sh, I, L) (0, 0) ?_
  refine hK.1 8 [some (vR h0), some (vR 1), some (vI x2), none] [vI x2] (sh, I, L) (0, 0) ?_
  refine hK.1 10 [some (vR h0), some (vR 1), some (vI x2), none] [vI 8, vI x2] (sh, I, L) (0, 0) ?_
  exact And.intro (And.intro n10a ⟨by decide, by decide⟩) (And.intro (fun h => hK.2 [true, false, false, false] _ _ _ _ _ (kt h)) (fun h => hK.2 [true, true, true, false] _ _ _ _ _ (kf h)))
set_option maxRecDepth 4000 in
theorem B_X4_readPlaces_13 {Q : oQ} {K : oK} (hK : oCl tb_X4_readPlaces Q K) {sh : oS} {I : Nat → Nat → Int} {L : Nat → Nat → Int64} {h0 : Nat} {x2 : Int} (n14 : inR x2) (kt : x2 ≤ 0 → K 29 [some (vR h0), some (vR 1), some (vI x2), none] [] (sh, I, L) (0, 0)) (kf : ¬ (x2 ≤ 0) → K 17 [some (vR h0), some (vR 1), some (vI x2), none] [] (sh, I, L) (0, 0)) : K 13 [some (vR h0), some (vR 1), some (vI x2), none] [] (sh, I, L) (0, 0) := by
  refine hK.1 13 [some (vR h0), some (vR 1), some (vI x2), none] [] (sh, I, L) (0, 0) ?_
  refine hK.1 14 [some (vR h0), some (vR 1), some (vI x2), none] [vI x2] (sh, I, L) (0, 0) ?_
  exact And.intro (n14) (And.intro (fun h => hK.2 [true, true, true, false] _ _ _ _ _ (kt h)) (fun h => hK.2 [true, true, true, false] _ _ _ _ _ (kf h)))
set_option maxRecDepth 4000 in
theorem B_X4_readPlaces_17 {Q : oQ} {K : oK} (hK : oCl tb_X4_readPlaces Q K) {sh : oS} (hs : Sh sh) {I : Nat → Nat → Int} {L : Nat → Nat → Int64} {h0 : Nat} {x2 : Int} (k : T_X8_take [vR 1, vI 44] (sh, I, L) (fun r mm => K 23 [some (vR h0), some (vR 1), some (vI x2), none] (r.toList ++ []) mm (0, 0))) : K 17 [some (vR h0), some (vR 1), some (vI x2), none] [] (sh, I, L) (0, 0) := by
  refine hK.1 17 [some (vR h0), some (vR 1), some (vI x2), none] [] (sh, I, L) (0, 0) ?_
  refine hK.1 18 [some (vR h0), some (vR 1), some (vI x2), none] [vR 1] (sh, I, L) (0, 0) ?_
  refine hK.1 20 [some (vR h0), some (vR 1), some (vI x2), none] [vI 44, vR 1] (sh, I, L) (0, 0) ?_
  exact And.intro ⟨(sk_1 hs), Nat.le_of_ble_eq_true rfl, Nat.le_of_ble_eq_true rfl, Nat.le_of_ble_eq_true rfl, Nat.le_of_ble_eq_true rfl⟩ k
set_option maxRecDepth 4000 in
theorem B_X4_readPlaces_23 {Q : oQ} {K : oK} (hK : oCl tb_X4_readPlaces Q K) {sh : oS} {I : Nat → Nat → Int} {L : Nat → Nat → Int64} {h0 : Nat} {x2 : Int} {s0 : Int} (n23 : inR s0) (kt : ¬ s0 = 0 → K 29 [some (vR h0), some (vR 1), some (vI x2), none] [] (sh, I, L) (0, 0)) (kf : ¬ (¬ s0 = 0) → K 26 [some (vR h0), none, none, none] [] (sh, I, L) (0, 0)) : K 23 [some (vR h0), some (vR 1), some (vI x2), none] [vI s0] (sh, I, L) (0, 0) := by
  refine hK.1 23 [some (vR h0), some (vR 1), some (vI x2), none] [vI s0] (sh, I, L) (0, 0) ?_
  exact And.intro (n23) (And.intro (fun h => hK.2 [true, true, true, false] _ _ _ _ _ (kt h)) (fun h => hK.2 [true, false, false, false] _ _ _ _ _ (kf h)))
set_option maxRecDepth 4000 in
theorem B_X4_readPlaces_26 {Q : oQ} {K : oK} (hK : oCl tb_X4_readPlaces Q K) {sh : oS} {I : Nat → Nat → Int} {L : Nat → Nat → Int64} {h0 : Nat} (k : K 82 [some (vR h0), none, none, none] [] (sh, I, L) (0, 0)) : K 26 [some (vR h0), none, none, none] [] (sh, I, L) (0, 0) := by
  refine hK.1 26 [some (vR h0), none, none, none] [] (sh, I, L) (0, 0) ?_
  exact k
set_option maxRecDepth 4000 in
theorem B_X4_readPlaces_29 {Q : oQ} {K : oK} (hK : oCl tb_X4_readPlaces Q K) {sh : oS} (hs : Sh sh) {I : Nat → Nat → Int} {L : Nat → Nat → Int64} {h0 : Nat} {x2 : Int} (k : T_X8_number [vR 1, vI 0, vI 3] (sh, I, L) (fun r mm => K 35 [some (vR h0), some (vR 1), some (vI x2), none] (r.toList ++ []) mm (0, 0))) : K 29 [some (vR h0), some (vR 1), some (vI x2), none] [] (sh, I, L) (0, 0) := by
  refine hK.1 29 [some (vR h0), some (vR 1), some (vI x2), none] [] (sh, I, L) (0, 0) ?_
  refine hK.1 30 [some (vR h0), some (vR 1), some (vI x2), none] [vR 1] (sh, I, L) (0, 0) ?_
  refine hK.1 31 [some (vR h0), some (vR 1), some (vI x2), none] [vI 0, vR 1] (sh, I, L) (0, 0) ?_
  refine hK.1 32 [some (vR h0), some (vR 1), some (vI x2), none] [vI 3, vI 0, vR 1] (sh, I, L) (0, 0) ?_
  exact And.intro ⟨(sk_1 hs), Nat.le_of_ble_eq_true rfl, Nat.le_of_ble_eq_true rfl, Nat.le_of_ble_eq_true rfl, Nat.le_of_ble_eq_true rfl⟩ k
set_option maxRecDepth 4000 in
theorem B_X4_readPlaces_35 {Q : oQ} {K : oK} (hK : oCl tb_X4_readPlaces Q K) {sh : oS} {I : Nat → Nat → Int} {L : Nat → Nat → Int64} {h0 : Nat} {x2 : Int} {s0 : Int} (n37 : inR s0) (kt : 0 ≤ s0 → K 42 [some (vR h0), some (vR 1), some (vI x2), some (vI s0)] [] (sh, I, L) (0, 0)) (kf : ¬ (0 ≤ s0) → K 40 [none, none, none, none] [] (sh, I, L) (0, 0)) : K 35 [some (vR h0), some (vR 1), some (vI x2), none] [vI s0] (sh, I, L) (0, 0) := by
  refine hK.1 35 [some (vR h0), some (vR 1), some (vI x2), none] [vI s0] (sh, I, L) (0, 0) ?_
  refine hK.1 36 [some (vR h0), some (vR 1), some (vI x2), some (vI s0)] [] (sh, I, L) (0, 0) ?_
  refine hK.1 37 [some (vR h0), some (vR 1), some (vI x2), some (vI s0)] [vI s0] (sh, I, L) (0, 0) ?_
  exact And.intro (n37) (And.intro (fun h => hK.2 [true, true, true, true] _ _ _ _ _ (kt h)) (fun h => hK.2 [false, false, false, false] _ _ _ _ _ (kf h)))
set_option maxRecDepth 4000 in
theorem B_X4_readPlaces_40 {Q : oQ} {K : oK} (hK : oCl tb_X4_readPlaces Q K) {sh : oS} {I : Nat → Nat → Int} {L : Nat → Nat → Int64}  (k : Q (some (vI 0)) (sh, I, L)) : K 40 [none, none, none, none] [] (sh, I, L) (0, 0) := by
  refine hK.1 40 [none, none, none, none] [] (sh, I, L) (0, 0) ?_
  refine hK.1 41 [none, none, none, none] [vI 0] (sh, I, L) (0, 0) ?_
  exact And.intro ⟨by decide, by decide, by decide⟩ k
set_option maxRecDepth 4000 in
theorem B_X4_readPlaces_42 {Q : oQ} {K : oK} (hK : oCl tb_X4_readPlaces Q K) {sh : oS} (hs : Sh sh) {I : Nat → Nat → Int} {L : Nat → Nat → Int64} {h0 : Nat} {x2 : Int} {x3 : Int} {h0f h0w : Nat} (Ah0 : LandAt sh h0 h0f h0w) (b48 : 0 ≤ x2 ∧ x2 < 8) (k : T_X8_take [vR 1, vI 119] (sh, (u2 I h0f (x2.toNat) x3), L) (fun r mm => K 60 [some (vR h0), some (vR 1), some (vI x2), none] (r.toList ++ [vI x2, vR h0w]) mm (0, 0))) : K 42 [some (vR h0), some (vR 1), some (vI x2), some (vI x3)] [] (sh, I, L) (0, 0) := by
  refine hK.1 42 [some (vR h0), some (vR 1), some (vI x2), some (vI x3)] [] (sh, I, L) (0, 0) ?_
  refine hK.1 43 [some (vR h0), some (vR 1), some (vI x2), some (vI x3)] [vR h0] (sh, I, L) (0, 0) ?_
  refine And.intro (mem1 Ah0.1) (Exists.intro h0f (And.intro Ah0.2.1 ?_))
  refine hK.1 46 [some (vR h0), some (vR 1), some (vI x2), some (vI x3)] [vR h0f] (sh, I, L) (0, 0) ?_
  refine hK.1 47 [some (vR h0), some (vR 1), some (vI x2), some (vI x3)] [vI x2, vR h0f] (sh, I, L) (0, 0) ?_
  refine hK.1 48 [some (vR h0), some (vR 1), some (vI x2), some (vI x3)] [vI x3, vI x2, vR h0f] (sh, I, L) (0, 0) ?_
  refine And.intro (And.intro (Ah0.2.2.2.1.1) (ixL (Ah0.2.2.2.1.2) b48)) ?_
  refine hK.1 49 [some (vR h0), some (vR 1), some (vI x2), some (vI x3)] [] (sh, (u2 I h0f (x2.toNat) x3), L) (0, 0) ?_
  refine hK.1 50 [some (vR h0), some (vR 1), some (vI x2), some (vI x3)] [vR h0] (sh, (u2 I h0f (x2.toNat) x3), L) (0, 0) ?_
  refine And.intro (mem1 Ah0.1) (Exists.intro h0w (And.intro Ah0.2.2.1 ?_))
  refine hK.1 53 [some (vR h0), some (vR 1), some (vI x2), some (vI x3)] [vR h0w] (sh, (u2 I h0f (x2.toNat) x3), L) (0, 0) ?_
  refine hK.1 54 [some (vR h0), some (vR 1), some (vI x2), some (vI x3)] [vI x2, vR h0w] (sh, (u2 I h0f (x2.toNat) x3), L) (0, 0) ?_
  refine hK.1 55 [some (vR h0), some (vR 1), some (vI x2), some (vI x3)] [vR 1, vI x2, vR h0w] (sh, (u2 I h0f (x2.toNat) x3), L) (0, 0) ?_
  refine hK.2 [true, true, true, false] _ _ _ _ _ ?_
  refine hK.1 57 [some (vR h0), some (vR 1), some (vI x2), none] [vI 119, vR 1, vI x2, vR h0w] (sh, (u2 I h0f (x2.toNat) x3), L) (0, 0) ?_
  exact And.intro ⟨(sk_1 hs), Nat.le_of_ble_eq_true rfl, Nat.le_of_ble_eq_true rfl, Nat.le_of_ble_eq_true rfl, Nat.le_of_ble_eq_true rfl⟩ k
set_option maxRecDepth 4000 in
theorem B_X4_readPlaces_60 {Q : oQ} {K : oK} (hK : oCl tb_X4_readPlaces Q K) {sh : oS} {I : Nat → Nat → Int} {L : Nat → Nat → Int64} {h0 : Nat} {x2 : Int} {s0 : Nat} {s1 : Int} {s2 : Int} (n60 : inR s2) (kt : s2 = 0 → K 67 [some (vR h0), some (vR 1), some (vI x2), none] [vI s1, vR s0] (sh, I, L) (0, 0)) (kf : ¬ (s2 = 0) → K 63 [some (vR h0), some (vR 1), some (vI x2), none] [vI s1, vR s0] (sh, I, L) (0, 0)) : K 60 [some (vR h0), some (vR 1), some (vI x2), none] [vI s2, vI s1, vR s0] (sh, I, L) (0, 0) := by
  refine hK.1 60 [some (vR h0), some (vR 1), some (vI x2), none] [vI s2, vI s1, vR s0] (sh, I, L) (0, 0) ?_
  exact And.intro (n60) (And.intro (fun h => hK.2 [true, true, true, false] _ _ _ _ _ (kt h)) (fun h => hK.2 [true, true, true, false] _ _ _ _ _ (kf h)))
set_option maxRecDepth 4000 in
theorem B_X4_readPlaces_63 {Q : oQ} {K : oK} (hK : oCl tb_X4_readPlaces Q K) {sh : oS} {I : Nat → Nat → Int} {L : Nat → Nat → Int64} {h0 : Nat} {x2 : Int} {s0 : Nat} {s1 : Int} (k : K 68 [some (vR h0), some (vR 1), some (vI x2), none] [vI 1, vI s1, vR s0] (sh, I, L) (0, 0)) : K 63 [some (vR h0), some (vR 1), some (vI x2), none] [vI s1, vR s0] (sh, I, L) (0, 0) := by
  refine hK.1 63 [some (vR h0), some (vR 1), some (vI x2), none] [vI s1, vR s0] (sh, I, L) (0, 0) ?_
  refine hK.1 64 [some (vR h0), some (vR 1), some (vI x2), none] [vI 1, vI s1, vR s0] (sh, I, L) (0, 0) ?_
  exact k
set_option maxRecDepth 4000 in
theorem B_X4_readPlaces_67 {Q : oQ} {K : oK} (hK : oCl tb_X4_readPlaces Q K) {sh : oS} {I : Nat → Nat → Int} {L : Nat → Nat → Int64} {h0 : Nat} {x2 : Int} {s0 : Nat} {s1 : Int} (k : K 68 [some (vR h0), some (vR 1), some (vI x2), none] [vI 0, vI s1, vR s0] (sh, I, L) (0, 0)) : K 67 [some (vR h0), some (vR 1), some (vI x2), none] [vI s1, vR s0] (sh, I, L) (0, 0) := by
  refine hK.1 67 [some (vR h0), some (vR 1), some (vI x2), none] [vI s1, vR s0] (sh, I, L) (0, 0) ?_
  exact k
set_option maxRecDepth 4000 in
theorem B_X4_readPlaces_68 {Q : oQ} {K : oK} (hK : oCl tb_X4_readPlaces Q K) {sh : oS} {I : Nat → Nat → Int} {L : Nat → Nat → Int64} {h0 : Nat} {x2 : Int} {s0 : Nat} {s1 : Int} {s2 : Int} {h0f h0w : Nat} (ks0 : sK sh s0 = 13) (b68 : 0 ≤ s1 ∧ s1 < (sL sh s0 : Int)) (Ah0 : LandAt sh h0 h0f h0w) (k : K 7 [some (vR h0), some (vR 1), some (vI (x2 + 1)), none] [] (sh, (u2 (u2 I s0 (s1.toNat) s2) h0 0 (x2 + 1)), L) (0, 0)) : K 68 [some (vR h0), some (vR 1), some (vI x2), none] [vI s2, vI s1, vR s0] (sh, I, L) (0, 0) := by
  refine hK.1 68 [some (vR h0), some (vR 1), some (vI x2), none] [vI s2, vI s1, vR s0] (sh, I, L) (0, 0) ?_
  refine And.intro (And.intro (ks0) b68) ?_
  refine hK.1 69 [some (vR h0), some (vR 1), some (vI x2), none] [] (sh, (u2 I s0 (s1.toNat) s2), L) (0, 0) ?_
  refine hK.1 70 [some (vR h0), some (vR 1), some (vI x2), none] [vR h0] (sh, (u2 I s0 (s1.toNat) s2), L) (0, 0) ?_
  refine hK.1 71 [some (vR h0), some (vR 1), some (vI x2), none] [vI x2, vR h0] (sh, (u2 I s0 (s1.toNat) s2), L) (0, 0) ?_
  refine hK.1 72 [some (vR h0), some (vR 1), some (vI x2), none] [vI 1, vI x2, vR h0] (sh, (u2 I s0 (s1.toNat) s2), L) (0, 0) ?_
  refine hK.1 73 [some (vR h0), some (vR 1), some (vI x2), none] [vI (x2 + 1), vR h0] (sh, (u2 I s0 (s1.toNat) s2), L) (0, 0) ?_
  refine And.intro (mem1 Ah0.1) ?_
  refine hK.1 76 [some (vR h0), some (vR 1), some (vI x2), none] [] (sh, (u2 (u2 I s0 (s1.toNat) s2) h0 0 (x2 + 1)), L) (0, 0) ?_
  refine hK.1 79 [some (vR h0), some (vR 1), some (vI (x2 + 1)), none] [] (sh, (u2 (u2 I s0 (s1.toNat) s2) h0 0 (x2 + 1)), L) (0, 0) ?_
  exact k
set_option maxRecDepth 4000 in
theorem B_X4_readPlaces_82 {Q : oQ} {K : oK} (hK : oCl tb_X4_readPlaces Q K) {sh : oS} {I : Nat → Nat → Int} {L : Nat → Nat → Int64} {h0 : Nat} {h0f h0w : Nat} (Ah0 : LandAt sh h0 h0f h0w) (n87a : inR (I h0 0)) (kt : I h0 0 < 2 → K 94 [none, none, none, none] [] (sh, I, L) (0, 0)) (kf : ¬ (I h0 0 < 2) → K 90 [none, none, none, none] [] (sh, I, L) (0, 0)) : K 82 [some (vR h0), none, none, none] [] (sh, I, L) (0, 0) := by
  refine hK.1 82 [some (vR h0), none, none, none] [] (sh, I, L) (0, 0) ?_
  refine hK.1 83 [some (vR h0), none, none, none] [vR h0] (sh, I, L) (0, 0) ?_
  refine And.intro (mem1 Ah0.1) ?_
  refine hK.1 86 [some (vR h0), none, none, none] [vI (I h0 0)] (sh, I, L) (0, 0) ?_
  refine hK.1 87 [some (vR h0), none, none, none] [vI 2, vI (I h0 0)] (sh, I, L) (0, 0) ?_
  exact And.intro (And.intro n87a ⟨by decide, by decide⟩) (And.intro (fun h => hK.2 [false, false, false, false] _ _ _ _ _ (kt h)) (fun h => hK.2 [false, false, false, false] _ _ _ _ _ (kf h)))
set_option maxRecDepth 4000 in
theorem B_X4_readPlaces_90 {Q : oQ} {K : oK} (hK : oCl tb_X4_readPlaces Q K) {sh : oS} {I : Nat → Nat → Int} {L : Nat → Nat → Int64}  (k : K 95 [none, none, none, none] [vI 1] (sh, I, L) (0, 0)) : K 90 [none, none, none, none] [] (sh, I, L) (0, 0) := by
  refine hK.1 90 [none, none, none, none] [] (sh, I, L) (0, 0) ?_
  refine hK.1 91 [none, none, none, none] [vI 1] (sh, I, L) (0, 0) ?_
  exact k
set_option maxRecDepth 4000 in
theorem B_X4_readPlaces_94 {Q : oQ} {K : oK} (hK : oCl tb_X4_readPlaces Q K) {sh : oS} {I : Nat → Nat → Int} {L : Nat → Nat → Int64}  (k : K 95 [none, none, none, none] [vI 0] (sh, I, L) (0, 0)) : K 94 [none, none, none, none] [] (sh, I, L) (0, 0) := by
  refine hK.1 94 [none, none, none, none] [] (sh, I, L) (0, 0) ?_
  exact k
set_option maxRecDepth 4000 in
theorem B_X4_readPlaces_95 {Q : oQ} {K : oK} (hK : oCl tb_X4_readPlaces Q K) {sh : oS} {I : Nat → Nat → Int} {L : Nat → Nat → Int64} {s0 : Int} (o95 : s0 = 0 ∨ s0 = 1) (k : Q (some (vI s0)) (sh, I, L)) : K 95 [none, none, none, none] [vI s0] (sh, I, L) (0, 0) := by
  refine hK.1 95 [none, none, none, none] [vI s0] (sh, I, L) (0, 0) ?_
  exact And.intro ⟨o95, by decide, by decide⟩ k
set_option maxRecDepth 4000 in
theorem B_X4_readOvens_0 {Q : oQ} {K : oK} (hK : oCl tb_X4_readOvens Q K) {sh : oS} (hs : Sh sh) {I : Nat → Nat → Int} {L : Nat → Nat → Int64} {h0 : Nat} (k : T_X8_take [vR 1, vI 59] (sh, I, L) (fun r mm => K 6 [some (vR h0), some (vR 1)] (r.toList ++ []) mm (0, 0))) : K 0 [some (vR h0), some (vR 1)] [] (sh, I, L) (0, 0) := by
  refine hK.1 0 [some (vR h0), some (vR 1)] [] (sh, I, L) (0, 0) ?_
  refine hK.1 1 [some (vR h0), some (vR 1)] [vR 1] (sh, I, L) (0, 0) ?_
  refine hK.1 3 [some (vR h0), some (vR 1)] [vI 59, vR 1] (sh, I, L) (0, 0) ?_
  exact And.intro ⟨(sk_1 hs), Nat.le_of_ble_eq_true rfl, Nat.le_of_ble_eq_true rfl, Nat.le_of_ble_eq_true rfl, Nat.le_of_ble_eq_true rfl⟩ k
set_option maxRecDepth 4000 in
theorem B_X4_readOvens_6 {Q : oQ} {K : oK} (hK : oCl tb_X4_readOvens Q K) {sh : oS} {I : Nat → Nat → Int} {L : Nat → Nat → Int64} {h0 : Nat} {s0 : Int} (n6 : inR s0) (kt : s0 = 0 → K 18 [none, none] [] (sh, I, L) (0, 0)) (kf : ¬ (s0 = 0) → K 9 [some (vR h0), some (vR 1)] [] (sh, I, L) (0, 0)) : K 6 [some (vR h0), some (vR 1)] [vI s0] (sh, I, L) (0, 0) := by
  refine hK.1 6 [some (vR h0), some (vR 1)] [vI s0] (sh, I, L) (0, 0) ?_
  exact And.intro (n6) (And.intro (fun h => hK.2 [false, false] _ _ _ _ _ (kt h)) (fun h => hK.2 [true, true] _ _ _ _ _ (kf h)))
set_option maxRecDepth 4000 in
theorem B_X4_readOvens_9 {Q : oQ} {K : oK} (hK : oCl tb_X4_readOvens Q K) {sh : oS} (hs : Sh sh) {I : Nat → Nat → Int} {L : Nat → Nat → Int64} {h0 : Nat} (k : T_X8_take [vR 1, vI 98] (sh, I, L) (fun r mm => K 15 [some (vR h0), some (vR 1)] (r.toList ++ []) mm (0, 0))) : K 9 [some (vR h0), some (vR 1)] [] (sh, I, L) (0, 0) := by
  refine hK.1 9 [some (vR h0), some (vR 1)] [] (sh, I, L) (0, 0) ?_
  refine hK.1 10 [some (vR h0), some (vR 1)] [vR 1] (sh, I, L) (0, 0) ?_
  refine hK.1 12 [some (vR h0), some (vR 1)] [vI 98, vR 1] (sh, I, L) (0, 0) ?_
  exact And.intro ⟨(sk_1 hs), Nat.le_of_ble_eq_true rfl, Nat.le_of_ble_eq_true rfl, Nat.le_of_ble_eq_true rfl, Nat.le_of_ble_eq_true rfl⟩ k
set_option maxRecDepth 4000 in
theorem B_X4_readOvens_15 {Q : oQ} {K : oK} (hK : oCl tb_X4_readOvens Q K) {sh : oS} {I : Nat → Nat → Int} {L : Nat → Nat → Int64} {h0 : Nat} {s0 : Int} (n15 : inR s0) (kt : ¬ s0 = 0 → K 20 [some (vR h0), some (vR 1)] [] (sh, I, L) (0, 0)) (kf : ¬ (¬ s0 = 0) → K 18 [none, none] [] (sh, I, L) (0, 0)) : K 15 [some (vR h0), some (vR 1)] [vI s0] (sh, I, L) (0, 0) := by
  refine hK.1 15 [some (vR h0), some (vR 1)] [vI s0] (sh, I, L) (0, 0) ?_
  exact And.intro (n15) (And.intro (fun h => hK.2 [true, true] _ _ _ _ _ (kt h)) (fun h => hK.2 [false, false] _ _ _ _ _ (kf h)))
set_option maxRecDepth 4000 in
theorem B_X4_readOvens_18 {Q : oQ} {K : oK} (hK : oCl tb_X4_readOvens Q K) {sh : oS} {I : Nat → Nat → Int} {L : Nat → Nat → Int64}  (k : Q (some (vI 0)) (sh, I, L)) : K 18 [none, none] [] (sh, I, L) (0, 0) := by
  refine hK.1 18 [none, none] [] (sh, I, L) (0, 0) ?_
  refine hK.1 19 [none, none] [vI 0] (sh, I, L) (0, 0) ?_
  exact And.intro ⟨by decide, by decide, by decide⟩ k
set_option maxRecDepth 4000 in
theorem B_X4_readOvens_20 {Q : oQ} {K : oK} (hK : oCl tb_X4_readOvens Q K) {sh : oS} (hs : Sh sh) {I : Nat → Nat → Int} {L : Nat → Nat → Int64} {h0 : Nat} (k : T_X8_number [vR 1, vI 1, vI 2] (sh, I, L) (fun r mm => K 27 [some (vR h0), some (vR 1)] (r.toList ++ [vR h0]) mm (0, 0))) : K 20 [some (vR h0), some (vR 1)] [] (sh, I, L) (0, 0) := by
  refine hK.1 20 [some (vR h0), some (vR 1)] [] (sh, I, L) (0, 0) ?_
  refine hK.1 21 [some (vR h0), some (vR 1)] [vR h0] (sh, I, L) (0, 0) ?_
  refine hK.1 22 [some (vR h0), some (vR 1)] [vR 1, vR h0] (sh, I, L) (0, 0) ?_
  refine hK.1 23 [some (vR h0), some (vR 1)] [vI 1, vR 1, vR h0] (sh, I, L) (0, 0) ?_
  refine hK.1 24 [some (vR h0), some (vR 1)] [vI 2, vI 1, vR 1, vR h0] (sh, I, L) (0, 0) ?_
  exact And.intro ⟨(sk_1 hs), Nat.le_of_ble_eq_true rfl, Nat.le_of_ble_eq_true rfl, Nat.le_of_ble_eq_true rfl, Nat.le_of_ble_eq_true rfl⟩ k
set_option maxRecDepth 4000 in
theorem B_X4_readOvens_27 {Q : oQ} {K : oK} (hK : oCl tb_X4_readOvens Q K) {sh : oS} {I : Nat → Nat → Int} {L : Nat → Nat → Int64} {h0 : Nat} {s0 : Nat} {s1 : Int} {s0f s0w : Nat} {h0f h0w : Nat} (As0 : LandAt sh s0 s0f s0w) (Ah0 : LandAt sh h0 h0f h0w) (n34 : inR ((u2 I s0 3 s1) h0 3)) (kt : (u2 I s0 3 s1) h0 3 < 0 → K 46 [none, none] [] (sh, (u2 I s0 3 s1), L) (0, 0)) (kf : ¬ ((u2 I s0 3 s1) h0 3 < 0) → K 37 [some (vR h0), some (vR 1)] [] (sh, (u2 I s0 3 s1), L) (0, 0)) : K 27 [some (vR h0), some (vR 1)] [vI s1, vR s0] (sh, I, L) (0, 0) := by
  refine hK.1 27 [some (vR h0), some (vR 1)] [vI s1, vR s0] (sh, I, L) (0, 0) ?_
  refine And.intro (mem1 As0.1) ?_
  refine hK.1 30 [some (vR h0), some (vR 1)] [] (sh, (u2 I s0 3 s1), L) (0, 0) ?_
  refine hK.1 31 [some (vR h0), some (vR 1)] [vR h0] (sh, (u2 I s0 3 s1), L) (0, 0) ?_
  refine And.intro (mem1 Ah0.1) ?_
  refine hK.1 34 [some (vR h0), some (vR 1)] [vI ((u2 I s0 3 s1) h0 3)] (sh, (u2 I s0 3 s1), L) (0, 0) ?_
  exact And.intro (n34) (And.intro (fun h => hK.2 [false, false] _ _ _ _ _ (kt h)) (fun h => hK.2 [true, true] _ _ _ _ _ (kf h)))
set_option maxRecDepth 4000 in
theorem B_X4_readOvens_37 {Q : oQ} {K : oK} (hK : oCl tb_X4_readOvens Q K) {sh : oS} (hs : Sh sh) {I : Nat → Nat → Int} {L : Nat → Nat → Int64} {h0 : Nat} (k : T_X8_take [vR 1, vI 100] (sh, I, L) (fun r mm => K 43 [some (vR h0), some (vR 1)] (r.toList ++ []) mm (0, 0))) : K 37 [some (vR h0), some (vR 1)] [] (sh, I, L) (0, 0) := by
  refine hK.1 37 [some (vR h0), some (vR 1)] [] (sh, I, L) (0, 0) ?_
  refine hK.1 38 [some (vR h0), some (vR 1)] [vR 1] (sh, I, L) (0, 0) ?_
  refine hK.1 40 [some (vR h0), some (vR 1)] [vI 100, vR 1] (sh, I, L) (0, 0) ?_
  exact And.intro ⟨(sk_1 hs), Nat.le_of_ble_eq_true rfl, Nat.le_of_ble_eq_true rfl, Nat.le_of_ble_eq_true rfl, Nat.le_of_ble_eq_true rfl⟩ k
set_option maxRecDepth 4000 in
theorem B_X4_readOvens_43 {Q : oQ} {K : oK} (hK : oCl tb_X4_readOvens Q K) {sh : oS} {I : Nat → Nat → Int} {L : Nat → Nat → Int64} {h0 : Nat} {s0 : Int} (n43 : inR s0) (kt : ¬ s0 = 0 → K 48 [some (vR h0), some (vR 1)] [] (sh, I, L) (0, 0)) (kf : ¬ (¬ s0 = 0) → K 46 [none, none] [] (sh, I, L) (0, 0)) : K 43 [some (vR h0), some (vR 1)] [vI s0] (sh, I, L) (0, 0) := by
  refine hK.1 43 [some (vR h0), some (vR 1)] [vI s0] (sh, I, L) (0, 0) ?_
  exact And.intro (n43) (And.intro (fun h => hK.2 [true, true] _ _ _ _ _ (kt h)) (fun h => hK.2 [false, false] _ _ _ _ _ (kf h)))
set_option maxRecDepth 4000 in
theorem B_X4_readOvens_46 {Q : oQ} {K : oK} (hK : oCl tb_X4_readOvens Q K) {sh : oS} {I : Nat → Nat → Int} {L : Nat → Nat → Int64}  (k : Q (some (vI 0)) (sh, I, L)) : K 46 [none, none] [] (sh, I, L) (0, 0) := by
  refine hK.1 46 [none, none] [] (sh, I, L) (0, 0) ?_
  refine hK.1 47 [none, none] [vI 0] (sh, I, L) (0, 0) ?_
  exact And.intro ⟨by decide, by decide, by decide⟩ k
set_option maxRecDepth 4000 in
theorem B_X4_readOvens_48 {Q : oQ} {K : oK} (hK : oCl tb_X4_readOvens Q K) {sh : oS} (hs : Sh sh) {I : Nat → Nat → Int} {L : Nat → Nat → Int64} {h0 : Nat} (k : T_X8_digit [vR 1, vI 0, vI 9] (sh, I, L) (fun r mm => K 56 [some (vR h0), some (vR 1)] (r.toList ++ [vR h0]) mm (0, 0))) : K 48 [some (vR h0), some (vR 1)] [] (sh, I, L) (0, 0) := by
  refine hK.1 48 [some (vR h0), some (vR 1)] [] (sh, I, L) (0, 0) ?_
  refine hK.1 49 [some (vR h0), some (vR 1)] [vR h0] (sh, I, L) (0, 0) ?_
  refine hK.1 50 [some (vR h0), some (vR 1)] [vR 1, vR h0] (sh, I, L) (0, 0) ?_
  refine hK.1 51 [some (vR h0), some (vR 1)] [vI 0, vR 1, vR h0] (sh, I, L) (0, 0) ?_
  refine hK.1 53 [some (vR h0), some (vR 1)] [vI 9, vI 0, vR 1, vR h0] (sh, I, L) (0, 0) ?_
  exact And.intro ⟨(sk_1 hs), Nat.le_of_ble_eq_true rfl, Nat.le_of_ble_eq_true rfl, Nat.le_of_ble_eq_true rfl, Nat.le_of_ble_eq_true rfl⟩ k
set_option maxRecDepth 4000 in
theorem B_X4_readOvens_56 {Q : oQ} {K : oK} (hK : oCl tb_X4_readOvens Q K) {sh : oS} {I : Nat → Nat → Int} {L : Nat → Nat → Int64} {h0 : Nat} {s0 : Nat} {s1 : Int} {s0f s0w : Nat} {h0f h0w : Nat} (As0 : LandAt sh s0 s0f s0w) (Ah0 : LandAt sh h0 h0f h0w) (n63 : inR ((u2 I s0 4 s1) h0 4)) (kt : (u2 I s0 4 s1) h0 4 < 0 → K 75 [none, none] [] (sh, (u2 I s0 4 s1), L) (0, 0)) (kf : ¬ ((u2 I s0 4 s1) h0 4 < 0) → K 66 [some (vR h0), some (vR 1)] [] (sh, (u2 I s0 4 s1), L) (0, 0)) : K 56 [some (vR h0), some (vR 1)] [vI s1, vR s0] (sh, I, L) (0, 0) := by
  refine hK.1 56 [some (vR h0), some (vR 1)] [vI s1, vR s0] (sh, I, L) (0, 0) ?_
  refine And.intro (mem1 As0.1) ?_
  refine hK.1 59 [some (vR h0), some (vR 1)] [] (sh, (u2 I s0 4 s1), L) (0, 0) ?_
  refine hK.1 60 [some (vR h0), some (vR 1)] [vR h0] (sh, (u2 I s0 4 s1), L) (0, 0) ?_
  refine And.intro (mem1 Ah0.1) ?_
  refine hK.1 63 [some (vR h0), some (vR 1)] [vI ((u2 I s0 4 s1) h0 4)] (sh, (u2 I s0 4 s1), L) (0, 0) ?_
  exact And.intro (n63) (And.intro (fun h => hK.2 [false, false] _ _ _ _ _ (kt h)) (fun h => hK.2 [true, true] _ _ _ _ _ (kf h)))
set_option maxRecDepth 4000 in
theorem B_X4_readOvens_66 {Q : oQ} {K : oK} (hK : oCl tb_X4_readOvens Q K) {sh : oS} (hs : Sh sh) {I : Nat → Nat → Int} {L : Nat → Nat → Int64} {h0 : Nat} (k : T_X8_take [vR 1, vI 107] (sh, I, L) (fun r mm => K 72 [some (vR h0), some (vR 1)] (r.toList ++ []) mm (0, 0))) : K 66 [some (vR h0), some (vR 1)] [] (sh, I, L) (0, 0) := by
  refine hK.1 66 [some (vR h0), some (vR 1)] [] (sh, I, L) (0, 0) ?_
  refine hK.1 67 [some (vR h0), some (vR 1)] [vR 1] (sh, I, L) (0, 0) ?_
  refine hK.1 69 [some (vR h0), some (vR 1)] [vI 107, vR 1] (sh, I, L) (0, 0) ?_
  exact And.intro ⟨(sk_1 hs), Nat.le_of_ble_eq_true rfl, Nat.le_of_ble_eq_true rfl, Nat.le_of_ble_eq_true rfl, Nat.le_of_ble_eq_true rfl⟩ k
set_option maxRecDepth 4000 in
theorem B_X4_readOvens_72 {Q : oQ} {K : oK} (hK : oCl tb_X4_readOvens Q K) {sh : oS} {I : Nat → Nat → Int} {L : Nat → Nat → Int64} {h0 : Nat} {s0 : Int} (n72 : inR s0) (kt : ¬ s0 = 0 → K 77 [some (vR h0), some (vR 1)] [] (sh, I, L) (0, 0)) (kf : ¬ (¬ s0 = 0) → K 75 [none, none] [] (sh, I, L) (0, 0)) : K 72 [some (vR h0), some (vR 1)] [vI s0] (sh, I, L) (0, 0) := by
  refine hK.1 72 [some (vR h0), some (vR 1)] [vI s0] (sh, I, L) (0, 0) ?_
  exact And.intro (n72) (And.intro (fun h => hK.2 [true, true] _ _ _ _ _ (kt h)) (fun h => hK.2 [false, false] _ _ _ _ _ (kf h)))
set_option maxRecDepth 4000 in
theorem B_X4_readOvens_75 {Q : oQ} {K : oK} (hK : oCl tb_X4_readOvens Q K) {sh : oS} {I : Nat → Nat → Int} {L : Nat → Nat → Int64}  (k : Q (some (vI 0)) (sh, I, L)) : K 75 [none, none] [] (sh, I, L) (0, 0) := by
  refine hK.1 75 [none, none] [] (sh, I, L) (0, 0) ?_
  refine hK.1 76 [none, none] [vI 0] (sh, I, L) (0, 0) ?_
  exact And.intro ⟨by decide, by decide, by decide⟩ k
set_option maxRecDepth 4000 in
theorem B_X4_readOvens_77 {Q : oQ} {K : oK} (hK : oCl tb_X4_readOvens Q K) {sh : oS} (hs : Sh sh) {I : Nat → Nat → Int} {L : Nat → Nat → Int64} {h0 : Nat} (k : T_X8_digit [vR 1, vI 1, vI 9] (sh, I, L) (fun r mm => K 85 [some (vR h0), some (vR 1)] (r.toList ++ [vR h0]) mm (0, 0))) : K 77 [some (vR h0), some (vR 1)] [] (sh, I, L) (0, 0) := by
  refine hK.1 77 [some (vR h0), some (vR 1)] [] (sh, I, L) (0, 0) ?_
  refine hK.1 78 [some (vR h0), some (vR 1)] [vR h0] (sh, I, L) (0, 0) ?_
  refine hK.1 79 [some (vR h0), some (vR 1)] [vR 1, vR h0] (sh, I, L) (0, 0) ?_
  refine hK.1 80 [some (vR h0), some (vR 1)] [vI 1, vR 1, vR h0] (sh, I, L) (0, 0) ?_
  refine hK.1 82 [some (vR h0), some (vR 1)] [vI 9, vI 1, vR 1, vR h0] (sh, I, L) (0, 0) ?_
  exact And.intro ⟨(sk_1 hs), Nat.le_of_ble_eq_true rfl, Nat.le_of_ble_eq_true rfl, Nat.le_of_ble_eq_true rfl, Nat.le_of_ble_eq_true rfl⟩ k
set_option maxRecDepth 4000 in
theorem B_X4_readOvens_85 {Q : oQ} {K : oK} (hK : oCl tb_X4_readOvens Q K) {sh : oS} {I : Nat → Nat → Int} {L : Nat → Nat → Int64} {h0 : Nat} {s0 : Nat} {s1 : Int} {s0f s0w : Nat} {h0f h0w : Nat} (As0 : LandAt sh s0 s0f s0w) (Ah0 : LandAt sh h0 h0f h0w) (n92 : inR ((u2 I s0 5 s1) h0 5)) (kt : 0 ≤ (u2 I s0 5 s1) h0 5 → K 97 [some (vR h0), some (vR 1)] [] (sh, (u2 I s0 5 s1), L) (0, 0)) (kf : ¬ (0 ≤ (u2 I s0 5 s1) h0 5) → K 95 [none, none] [] (sh, (u2 I s0 5 s1), L) (0, 0)) : K 85 [some (vR h0), some (vR 1)] [vI s1, vR s0] (sh, I, L) (0, 0) := by
  refine hK.1 85 [some (vR h0), some (vR 1)] [vI s1, vR s0] (sh, I, L) (0, 0) ?_
  refine And.intro (mem1 As0.1) ?_
  refine hK.1 88 [some (vR h0), some (vR 1)] [] (sh, (u2 I s0 5 s1), L) (0, 0) ?_
  refine hK.1 89 [some (vR h0), some (vR 1)] [vR h0] (sh, (u2 I s0 5 s1), L) (0, 0) ?_
  refine And.intro (mem1 Ah0.1) ?_
  refine hK.1 92 [some (vR h0), some (vR 1)] [vI ((u2 I s0 5 s1) h0 5)] (sh, (u2 I s0 5 s1), L) (0, 0) ?_
  exact And.intro (n92) (And.intro (fun h => hK.2 [true, true] _ _ _ _ _ (kt h)) (fun h => hK.2 [false, false] _ _ _ _ _ (kf h)))
set_option maxRecDepth 4000 in
theorem B_X4_readOvens_95 {Q : oQ} {K : oK} (hK : oCl tb_X4_readOvens Q K) {sh : oS} {I : Nat → Nat → Int} {L : Nat → Nat → Int64}  (k : Q (some (vI 0)) (sh, I, L)) : K 95 [none, none] [] (sh, I, L) (0, 0) := by
  refine hK.1 95 [none, none] [] (sh, I, L) (0, 0) ?_
  refine hK.1 96 [none, none] [vI 0] (sh, I, L) (0, 0) ?_
  exact And.intro ⟨by decide, by decide, by decide⟩ k
set_option maxRecDepth 4000 in
theorem B_X4_readOvens_97 {Q : oQ} {K : oK} (hK : oCl tb_X4_readOvens Q K) {sh : oS} (hs : Sh sh) {I : Nat → Nat → Int} {L : Nat → Nat → Int64} {h0 : Nat} (k : T_X8_take [vR 1, vI 114] (sh, I, L) (fun r mm => K 104 [some (vR h0), some (vR 1)] (r.toList ++ [vR h0]) mm (0, 0))) : K 97 [some (vR h0), some (vR 1)] [] (sh, I, L) (0, 0) := by
  refine hK.1 97 [some (vR h0), some (vR 1)] [] (sh, I, L) (0, 0) ?_
  refine hK.1 98 [some (vR h0), some (vR 1)] [vR h0] (sh, I, L) (0, 0) ?_
  refine hK.1 99 [some (vR h0), some (vR 1)] [vR 1, vR h0] (sh, I, L) (0, 0) ?_
  refine hK.1 101 [some (vR h0), some (vR 1)] [vI 114, vR 1, vR h0] (sh, I, L) (0, 0) ?_
  exact And.intro ⟨(sk_1 hs), Nat.le_of_ble_eq_true rfl, Nat.le_of_ble_eq_true rfl, Nat.le_of_ble_eq_true rfl, Nat.le_of_ble_eq_true rfl⟩ k
set_option maxRecDepth 4000 in
theorem B_X4_readOvens_104 {Q : oQ} {K : oK} (hK : oCl tb_X4_readOvens Q K) {sh : oS} {I : Nat → Nat → Int} {L : Nat → Nat → Int64} {h0 : Nat} {s0 : Nat} {s1 : Int} (n104 : inR s1) (kt : s1 = 0 → K 116 [some (vR h0), none] [vR s0] (sh, I, L) (0, 0)) (kf : ¬ (s1 = 0) → K 107 [some (vR h0), some (vR 1)] [vR s0] (sh, I, L) (0, 0)) : K 104 [some (vR h0), some (vR 1)] [vI s1, vR s0] (sh, I, L) (0, 0) := by
  refine hK.1 104 [some (vR h0), some (vR 1)] [vI s1, vR s0] (sh, I, L) (0, 0) ?_
  exact And.intro (n104) (And.intro (fun h => hK.2 [true, false] _ _ _ _ _ (kt h)) (fun h => hK.2 [true, true] _ _ _ _ _ (kf h)))
set_option maxRecDepth 4000 in
theorem B_X4_readOvens_107 {Q : oQ} {K : oK} (hK : oCl tb_X4_readOvens Q K) {sh : oS} (hs : Sh sh) {I : Nat → Nat → Int} {L : Nat → Nat → Int64} {h0 : Nat} {s0 : Nat} (k : T_X8_number [vR 1, vI 0, vI 3] (sh, I, L) (fun r mm => K 113 [some (vR h0), none] (r.toList ++ [vR s0]) mm (0, 0))) : K 107 [some (vR h0), some (vR 1)] [vR s0] (sh, I, L) (0, 0) := by
  refine hK.1 107 [some (vR h0), some (vR 1)] [vR s0] (sh, I, L) (0, 0) ?_
  refine hK.1 108 [some (vR h0), some (vR 1)] [vR 1, vR s0] (sh, I, L) (0, 0) ?_
  refine hK.1 109 [some (vR h0), some (vR 1)] [vI 0, vR 1, vR s0] (sh, I, L) (0, 0) ?_
  refine hK.2 [true, false] _ _ _ _ _ ?_
  refine hK.1 110 [some (vR h0), none] [vI 3, vI 0, vR 1, vR s0] (sh, I, L) (0, 0) ?_
  exact And.intro ⟨(sk_1 hs), Nat.le_of_ble_eq_true rfl, Nat.le_of_ble_eq_true rfl, Nat.le_of_ble_eq_true rfl, Nat.le_of_ble_eq_true rfl⟩ k
set_option maxRecDepth 4000 in
theorem B_X4_readOvens_113 {Q : oQ} {K : oK} (hK : oCl tb_X4_readOvens Q K) {sh : oS} {I : Nat → Nat → Int} {L : Nat → Nat → Int64} {h0 : Nat} {s0 : Nat} {s1 : Int} (k : K 117 [some (vR h0), none] [vI s1, vR s0] (sh, I, L) (0, 0)) : K 113 [some (vR h0), none] [vI s1, vR s0] (sh, I, L) (0, 0) := by
  refine hK.1 113 [some (vR h0), none] [vI s1, vR s0] (sh, I, L) (0, 0) ?_
  exact k
set_option maxRecDepth 4000 in
theorem B_X4_readOvens_116 {Q : oQ} {K : oK} (hK : oCl tb_X4_readOvens Q K) {sh : oS} {I : Nat → Nat → Int} {L : Nat → Nat → Int64} {h0 : Nat} {s0 : Nat} (k : K 117 [some (vR h0), none] [vI 0, vR s0] (sh, I, L) (0, 0)) : K 116 [some (vR h0), none] [vR s0] (sh, I, L) (0, 0) := by
  refine hK.1 116 [some (vR h0), none] [vR s0] (sh, I, L) (0, 0) ?_
  exact k
set_option maxRecDepth 4000 in
theorem B_X4_readOvens_117 {Q : oQ} {K : oK} (hK : oCl tb_X4_readOvens Q K) {sh : oS} {I : Nat → Nat → Int} {L : Nat → Nat → Int64} {h0 : Nat} {s0 : Nat} {s1 : Int} {s0f s0w : Nat} {h0f h0w : Nat} (As0 : LandAt sh s0 s0f s0w) (Ah0 : LandAt sh h0 h0f h0w) (n124 : inR ((u2 I s0 6 s1) h0 6)) (kt : (u2 I s0 6 s1) h0 6 < 0 → K 131 [none, none] [] (sh, (u2 I s0 6 s1), L) (0, 0)) (kf : ¬ ((u2 I s0 6 s1) h0 6 < 0) → K 127 [none, none] [] (sh, (u2 I s0 6 s1), L) (0, 0)) : K 117 [some (vR h0), none] [vI s1, vR s0] (sh, I, L) (0, 0) := by
  refine hK.1 117 [some (vR h0), none] [vI s1, vR s0] (sh, I, L) (0, 0) ?_
  refine And.intro (mem1 As0.1) ?_
  refine hK.1 120 [some (vR h0), none] [] (sh, (u2 I s0 6 s1), L) (0, 0) ?_
  refine hK.1 121 [some (vR h0), none] [vR h0] (sh, (u2 I s0 6 s1), L) (0, 0) ?_
  refine And.intro (mem1 Ah0.1) ?_
  refine hK.1 124 [some (vR h0), none] [vI ((u2 I s0 6 s1) h0 6)] (sh, (u2 I s0 6 s1), L) (0, 0) ?_
  exact And.intro (n124) (And.intro (fun h => hK.2 [false, false] _ _ _ _ _ (kt h)) (fun h => hK.2 [false, false] _ _ _ _ _ (kf h)))
set_option maxRecDepth 4000 in
theorem B_X4_readOvens_127 {Q : oQ} {K : oK} (hK : oCl tb_X4_readOvens Q K) {sh : oS} {I : Nat → Nat → Int} {L : Nat → Nat → Int64}  (k : K 132 [none, none] [vI 1] (sh, I, L) (0, 0)) : K 127 [none, none] [] (sh, I, L) (0, 0) := by
  refine hK.1 127 [none, none] [] (sh, I, L) (0, 0) ?_
  refine hK.1 128 [none, none] [vI 1] (sh, I, L) (0, 0) ?_
  exact k
set_option maxRecDepth 4000 in
theorem B_X4_readOvens_131 {Q : oQ} {K : oK} (hK : oCl tb_X4_readOvens Q K) {sh : oS} {I : Nat → Nat → Int} {L : Nat → Nat → Int64}  (k : K 132 [none, none] [vI 0] (sh, I, L) (0, 0)) : K 131 [none, none] [] (sh, I, L) (0, 0) := by
  refine hK.1 131 [none, none] [] (sh, I, L) (0, 0) ?_
  exact k
set_option maxRecDepth 4000 in
theorem B_X4_readOvens_132 {Q : oQ} {K : oK} (hK : oCl tb_X4_readOvens Q K) {sh : oS} {I : Nat → Nat → Int} {L : Nat → Nat → Int64} {s0 : Int} (o132 : s0 = 0 ∨ s0 = 1) (k : Q (some (vI s0)) (sh, I, L)) : K 132 [none, none] [vI s0] (sh, I, L) (0, 0) := by
  refine hK.1 132 [none, none] [vI s0] (sh, I, L) (0, 0) ?_
  exact And.intro ⟨o132, by decide, by decide⟩ k
set_option maxRecDepth 4000 in
theorem B_X4_read_0 {Q : oQ} {K : oK} (hK : oCl tb_X4_read Q K) {sh : oS} (hs : Sh sh) {I : Nat → Nat → Int} {L : Nat → Nat → Int64} {h0 : Nat} {h0f h0w : Nat} (Ah0 : LandAt sh h0 h0f h0w) (k : T_J7_fill_53178 [vR h0f, vI 0] (sh, (u2 I 1 2 0), L) (fun r mm => K 13 [some (vR h0), some (vR 1)] (r.toList ++ []) mm (0, 0))) : K 0 [some (vR h0), some (vR 1)] [] (sh, I, L) (0, 0) := by
  refine hK.1 0 [some (vR h0), some (vR 1)] [] (sh, I, L) (0, 0) ?_
  refine hK.1 1 [some (vR h0), some (vR 1)] [vR 1] (sh, I, L) (0, 0) ?_
  refine hK.1 2 [some (vR h0), some (vR 1)] [vI 0, vR 1] (sh, I, L) (0, 0) ?_
  refine And.intro (mem1 (sk_1 hs)) ?_
  refine hK.1 5 [some (vR h0), some (vR 1)] [] (sh, (u2 I 1 2 0), L) (0, 0) ?_
  refine hK.1 6 [some (vR h0), some (vR 1)] [vR h0] (sh, (u2 I 1 2 0), L) (0, 0) ?_
  refine And.intro (mem1 Ah0.1) (Exists.intro h0f (And.intro Ah0.2.1 ?_))
  refine hK.1 9 [some (vR h0), some (vR 1)] [vR h0f] (sh, (u2 I 1 2 0), L) (0, 0) ?_
  refine hK.1 10 [some (vR h0), some (vR 1)] [vI 0, vR h0f] (sh, (u2 I 1 2 0), L) (0, 0) ?_
  exact And.intro ⟨Nat.le_of_ble_eq_true rfl, Nat.le_of_ble_eq_true rfl, Nat.le_of_ble_eq_true rfl, Nat.le_of_ble_eq_true rfl⟩ k
set_option maxRecDepth 4000 in
theorem B_X4_read_13 {Q : oQ} {K : oK} (hK : oCl tb_X4_read Q K) {sh : oS} {I : Nat → Nat → Int} {L : Nat → Nat → Int64} {h0 : Nat} {h0f h0w : Nat} (k : T_X4_readPlaces [vR h0, vR 1] (sh, I, L) (fun r mm => K 18 [some (vR h0), some (vR 1)] (r.toList ++ []) mm (0, 0))) (Ah0 : LandAt sh h0 h0f h0w) : K 13 [some (vR h0), some (vR 1)] [] (sh, I, L) (0, 0) := by
  refine hK.1 13 [some (vR h0), some (vR 1)] [] (sh, I, L) (0, 0) ?_
  refine hK.1 14 [some (vR h0), some (vR 1)] [vR h0] (sh, I, L) (0, 0) ?_
  refine hK.1 15 [some (vR h0), some (vR 1)] [vR 1, vR h0] (sh, I, L) (0, 0) ?_
  exact And.intro ⟨Ah0.1, Nat.le_of_ble_eq_true rfl, Nat.le_of_ble_eq_true rfl, Nat.le_of_ble_eq_true rfl, Nat.le_of_ble_eq_true rfl⟩ k
set_option maxRecDepth 4000 in
theorem B_X4_read_18 {Q : oQ} {K : oK} (hK : oCl tb_X4_read Q K) {sh : oS} {I : Nat → Nat → Int} {L : Nat → Nat → Int64} {h0 : Nat} {s0 : Int} (n18 : inR s0) (kt : s0 = 0 → K 40 [none, none] [] (sh, I, L) (0, 0)) (kf : ¬ (s0 = 0) → K 21 [some (vR h0), some (vR 1)] [] (sh, I, L) (0, 0)) : K 18 [some (vR h0), some (vR 1)] [vI s0] (sh, I, L) (0, 0) := by
  refine hK.1 18 [some (vR h0), some (vR 1)] [vI s0] (sh, I, L) (0, 0) ?_
  exact And.intro (n18) (And.intro (fun h => hK.2 [false, false] _ _ _ _ _ (kt h)) (fun h => hK.2 [true, true] _ _ _ _ _ (kf h)))
set_option maxRecDepth 4000 in
theorem B_X4_read_21 {Q : oQ} {K : oK} (hK : oCl tb_X4_read Q K) {sh : oS} {I : Nat → Nat → Int} {L : Nat → Nat → Int64} {h0 : Nat} {h0f h0w : Nat} (k : T_X4_readOvens [vR h0, vR 1] (sh, I, L) (fun r mm => K 26 [none, some (vR 1)] (r.toList ++ []) mm (0, 0))) (Ah0 : LandAt sh h0 h0f h0w) : K 21 [some (vR h0), some (vR 1)] [] (sh, I, L) (0, 0) := by
  refine hK.1 21 [some (vR h0), some (vR 1)] [] (sh, I, L) (0, 0) ?_
  refine hK.1 22 [some (vR h0), some (vR 1)] [vR h0] (sh, I, L) (0, 0) ?_
  refine hK.2 [false, true] _ _ _ _ _ ?_
  refine hK.1 23 [none, some (vR 1)] [vR 1, vR h0] (sh, I, L) (0, 0) ?_
  exact And.intro ⟨Ah0.1, Nat.le_of_ble_eq_true rfl, Nat.le_of_ble_eq_true rfl, Nat.le_of_ble_eq_true rfl, Nat.le_of_ble_eq_true rfl⟩ k
set_option maxRecDepth 4000 in
theorem B_X4_read_26 {Q : oQ} {K : oK} (hK : oCl tb_X4_read Q K) {sh : oS} {I : Nat → Nat → Int} {L : Nat → Nat → Int64} {s0 : Int} (n26 : inR s0) (kt : s0 = 0 → K 40 [none, none] [] (sh, I, L) (0, 0)) (kf : ¬ (s0 = 0) → K 29 [none, some (vR 1)] [] (sh, I, L) (0, 0)) : K 26 [none, some (vR 1)] [vI s0] (sh, I, L) (0, 0) := by
  refine hK.1 26 [none, some (vR 1)] [vI s0] (sh, I, L) (0, 0) ?_
  exact And.intro (n26) (And.intro (fun h => hK.2 [false, false] _ _ _ _ _ (kt h)) (fun h => hK.2 [false, true] _ _ _ _ _ (kf h)))
set_option maxRecDepth 4000 in
theorem B_X4_read_29 {Q : oQ} {K : oK} (hK : oCl tb_X4_read Q K) {sh : oS} (hs : Sh sh) {I : Nat → Nat → Int} {L : Nat → Nat → Int64}  (k : T_X8_atEnd [vR 1] (sh, I, L) (fun r mm => K 33 [none, none] (r.toList ++ []) mm (0, 0))) : K 29 [none, some (vR 1)] [] (sh, I, L) (0, 0) := by
  refine hK.1 29 [none, some (vR 1)] [] (sh, I, L) (0, 0) ?_
  refine hK.2 [false, false] _ _ _ _ _ ?_
  refine hK.1 30 [none, none] [vR 1] (sh, I, L) (0, 0) ?_
  exact And.intro ⟨(sk_1 hs), Nat.le_of_ble_eq_true rfl, Nat.le_of_ble_eq_true rfl, Nat.le_of_ble_eq_true rfl, Nat.le_of_ble_eq_true rfl⟩ k
set_option maxRecDepth 4000 in
theorem B_X4_read_33 {Q : oQ} {K : oK} (hK : oCl tb_X4_read Q K) {sh : oS} {I : Nat → Nat → Int} {L : Nat → Nat → Int64} {s0 : Int} (n33 : inR s0) (kt : s0 = 0 → K 40 [none, none] [] (sh, I, L) (0, 0)) (kf : ¬ (s0 = 0) → K 36 [none, none] [] (sh, I, L) (0, 0)) : K 33 [none, none] [vI s0] (sh, I, L) (0, 0) := by
  refine hK.1 33 [none, none] [vI s0] (sh, I, L) (0, 0) ?_
  exact And.intro (n33) (And.intro (fun h => hK.2 [false, false] _ _ _ _ _ (kt h)) (fun h => hK.2 [false, false] _ _ _ _ _ (kf h)))
set_option maxRecDepth 4000 in
theorem B_X4_read_36 {Q : oQ} {K : oK} (hK : oCl tb_X4_read Q K) {sh : oS} {I : Nat → Nat → Int} {L : Nat → Nat → Int64}  (k : K 41 [none, none] [vI 1] (sh, I, L) (0, 0)) : K 36 [none, none] [] (sh, I, L) (0, 0) := by
  refine hK.1 36 [none, none] [] (sh, I, L) (0, 0) ?_
  refine hK.1 37 [none, none] [vI 1] (sh, I, L) (0, 0) ?_
  exact k
set_option maxRecDepth 4000 in
theorem B_X4_read_40 {Q : oQ} {K : oK} (hK : oCl tb_X4_read Q K) {sh : oS} {I : Nat → Nat → Int} {L : Nat → Nat → Int64}  (k : K 41 [none, none] [vI 0] (sh, I, L) (0, 0)) : K 40 [none, none] [] (sh, I, L) (0, 0) := by
  refine hK.1 40 [none, none] [] (sh, I, L) (0, 0) ?_
  exact k
set_option maxRecDepth 4000 in
theorem B_X4_read_41 {Q : oQ} {K : oK} (hK : oCl tb_X4_read Q K) {sh : oS} {I : Nat → Nat → Int} {L : Nat → Nat → Int64} {s0 : Int} (o41 : s0 = 0 ∨ s0 = 1) (k : Q (some (vI s0)) (sh, I, L)) : K 41 [none, none] [vI s0] (sh, I, L) (0, 0) := by
  refine hK.1 41 [none, none] [vI s0] (sh, I, L) (0, 0) ?_
  exact And.intro ⟨o41, by decide, by decide⟩ k
set_option maxRecDepth 4000 in
theorem B_X6_readTenths_0 {Q : oQ} {K : oK} (hK : oCl tb_X6_readTenths Q K) {sh : oS} (hs : Sh sh) {I : Nat → Nat → Int} {L : Nat → Nat → Int64} {h0 : Nat} {x2 : Int} (k : T_X8_digit [vR 1, vI 1, vI 9] (sh, I, L) (fun r mm => K 7 [some (vR h0), none, some (vI x2), none] (r.toList ++ []) mm (0, 0))) : K 0 [some (vR h0), some (vR 1), some (vI x2), none] [] (sh, I, L) (0, 0) := by
  refine hK.1 0 [some (vR h0), some (vR 1), some (vI x2), none] [] (sh, I, L) (0, 0) ?_
  refine hK.1 1 [some (vR h0), some (vR 1), some (vI x2), none] [vR 1] (sh, I, L) (0, 0) ?_
  refine hK.1 2 [some (vR h0), some (vR 1), some (vI x2), none] [vI 1, vR 1] (sh, I, L) (0, 0) ?_
  refine hK.2 [true, false, true, false] _ _ _ _ _ ?_
  refine hK.1 4 [some (vR h0), none, some (vI x2), none] [vI 9, vI 1, vR 1] (sh, I, L) (0, 0) ?_
  exact And.intro ⟨(sk_1 hs), Nat.le_of_ble_eq_true rfl, Nat.le_of_ble_eq_true rfl, Nat.le_of_ble_eq_true rfl, Nat.le_of_ble_eq_true rfl⟩ k
set_option maxRecDepth 4000 in
theorem B_X6_readTenths_7 {Q : oQ} {K : oK} (hK : oCl tb_X6_readTenths Q K) {sh : oS} {I : Nat → Nat → Int} {L : Nat → Nat → Int64} {h0 : Nat} {x2 : Int} {s0 : Int} (n9 : inR s0) (kt : s0 < 0 → K 20 [none, none, none, none] [] (sh, I, L) (0, 0)) (kf : ¬ (s0 < 0) → K 12 [some (vR h0), none, some (vI x2), some (vI s0)] [] (sh, I, L) (0, 0)) : K 7 [some (vR h0), none, some (vI x2), none] [vI s0] (sh, I, L) (0, 0) := by
  refine hK.1 7 [some (vR h0), none, some (vI x2), none] [vI s0] (sh, I, L) (0, 0) ?_
  refine hK.1 8 [some (vR h0), none, some (vI x2), some (vI s0)] [] (sh, I, L) (0, 0) ?_
  refine hK.1 9 [some (vR h0), none, some (vI x2), some (vI s0)] [vI s0] (sh, I, L) (0, 0) ?_
  exact And.intro (n9) (And.intro (fun h => hK.2 [false, false, false, false] _ _ _ _ _ (kt h)) (fun h => hK.2 [true, false, true, true] _ _ _ _ _ (kf h)))
set_option maxRecDepth 4000 in
theorem B_X6_readTenths_12 {Q : oQ} {K : oK} (hK : oCl tb_X6_readTenths Q K) {sh : oS} {I : Nat → Nat → Int} {L : Nat → Nat → Int64} {h0 : Nat} {x2 : Int} {x3 : Int} {h0e h0p h0t : Nat} (Ah0 : MarchAt sh h0 h0e h0p h0t) (n17a : inR (I h0 1)) (kt : I h0 1 < 2 → K 22 [some (vR h0), none, some (vI x2), some (vI x3)] [] (sh, I, L) (0, 0)) (kf : ¬ (I h0 1 < 2) → K 20 [none, none, none, none] [] (sh, I, L) (0, 0)) : K 12 [some (vR h0), none, some (vI x2), some (vI x3)] [] (sh, I, L) (0, 0) := by
  refine hK.1 12 [some (vR h0), none, some (vI x2), some (vI x3)] [] (sh, I, L) (0, 0) ?_
  refine hK.1 13 [some (vR h0), none, some (vI x2), some (vI x3)] [vR h0] (sh, I, L) (0, 0) ?_
  refine And.intro (mem1 Ah0.1) ?_
  refine hK.1 16 [some (vR h0), none, some (vI x2), some (vI x3)] [vI (I h0 1)] (sh, I, L) (0, 0) ?_
  refine hK.1 17 [some (vR h0), none, some (vI x2), some (vI x3)] [vI 2, vI (I h0 1)] (sh, I, L) (0, 0) ?_
  exact And.intro (And.intro n17a ⟨by decide, by decide⟩) (And.intro (fun h => hK.2 [true, false, true, true] _ _ _ _ _ (kt h)) (fun h => hK.2 [false, false, false, false] _ _ _ _ _ (kf h)))
set_option maxRecDepth 4000 in
theorem B_X6_readTenths_20 {Q : oQ} {K : oK} (hK : oCl tb_X6_readTenths Q K) {sh : oS} {I : Nat → Nat → Int} {L : Nat → Nat → Int64}  (k : Q (some (vI 0)) (sh, I, L)) : K 20 [none, none, none, none] [] (sh, I, L) (0, 0) := by
  refine hK.1 20 [none, none, none, none] [] (sh, I, L) (0, 0) ?_
  refine hK.1 21 [none, none, none, none] [vI 0] (sh, I, L) (0, 0) ?_
  exact And.intro ⟨by decide, by decide, by decide⟩ k
set_option maxRecDepth 4000 in
theorem B_X6_readTenths_22 {Q : oQ} {K : oK} (hK : oCl tb_X6_readTenths Q K) {sh : oS} {I : Nat → Nat → Int} {L : Nat → Nat → Int64} {h0 : Nat} {x2 : Int} {x3 : Int} {h0e h0p h0t : Nat} (Ah0 : MarchAt sh h0 h0e h0p h0t) (b31 : 0 ≤ I h0 1 ∧ I h0 1 < 2) (k : T_X6_addDays [vR h0, vI 2, vI 1, vI x2] (sh, (u2 (u2 I h0t ((I h0 1).toNat) x3) h0 1 (((u2 I h0t ((I h0 1).toNat) x3) h0 1) + 1)), L) (fun r mm => K 49 [none, none, none, none] (r.toList ++ []) mm (0, 0))) : K 22 [some (vR h0), none, some (vI x2), some (vI x3)] [] (sh, I, L) (0, 0) := by
  refine hK.1 22 [some (vR h0), none, some (vI x2), some (vI x3)] [] (sh, I, L) (0, 0) ?_
  refine hK.1 23 [some (vR h0), none, some (vI x2), some (vI x3)] [vR h0] (sh, I, L) (0, 0) ?_
  refine And.intro (mem1 Ah0.1) (Exists.intro h0t (And.intro Ah0.2.2.2.1 ?_))
  refine hK.1 26 [some (vR h0), none, some (vI x2), some (vI x3)] [vR h0t] (sh, I, L) (0, 0) ?_
  refine hK.1 27 [some (vR h0), none, some (vI x2), some (vI x3)] [vR h0, vR h0t] (sh, I, L) (0, 0) ?_
  refine And.intro (mem1 Ah0.1) ?_
  refine hK.1 30 [some (vR h0), none, some (vI x2), some (vI x3)] [vI (I h0 1), vR h0t] (sh, I, L) (0, 0) ?_
  refine hK.1 31 [some (vR h0), none, some (vI x2), some (vI x3)] [vI x3, vI (I h0 1), vR h0t] (sh, I, L) (0, 0) ?_
  refine And.intro (And.intro (Ah0.2.2.2.2.2.2.1) (ixL (Ah0.2.2.2.2.2.2.2) b31)) ?_
  refine hK.1 32 [some (vR h0), none, some (vI x2), some (vI x3)] [] (sh, (u2 I h0t ((I h0 1).toNat) x3), L) (0, 0) ?_
  refine hK.1 33 [some (vR h0), none, some (vI x2), some (vI x3)] [vR h0] (sh, (u2 I h0t ((I h0 1).toNat) x3), L) (0, 0) ?_
  refine hK.1 34 [some (vR h0), none, some (vI x2), some (vI x3)] [vR h0, vR h0] (sh, (u2 I h0t ((I h0 1).toNat) x3), L) (0, 0) ?_
  refine And.intro (mem1 Ah0.1) ?_
  refine hK.1 37 [some (vR h0), none, some (vI x2), some (vI x3)] [vI ((u2 I h0t ((I h0 1).toNat) x3) h0 1), vR h0] (sh, (u2 I h0t ((I h0 1).toNat) x3), L) (0, 0) ?_
  refine hK.1 38 [some (vR h0), none, some (vI x2), some (vI x3)] [vI 1, vI ((u2 I h0t ((I h0 1).toNat) x3) h0 1), vR h0] (sh, (u2 I h0t ((I h0 1).toNat) x3), L) (0, 0) ?_
  refine hK.1 39 [some (vR h0), none, some (vI x2), some (vI x3)] [vI (((u2 I h0t ((I h0 1).toNat) x3) h0 1) + 1), vR h0] (sh, (u2 I h0t ((I h0 1).toNat) x3), L) (0, 0) ?_
  refine And.intro (mem1 Ah0.1) ?_
  refine hK.1 42 [some (vR h0), none, some (vI x2), some (vI x3)] [] (sh, (u2 (u2 I h0t ((I h0 1).toNat) x3) h0 1 (((u2 I h0t ((I h0 1).toNat) x3) h0 1) + 1)), L) (0, 0) ?_
  refine hK.1 43 [some (vR h0), none, some (vI x2), some (vI x3)] [vR h0] (sh, (u2 (u2 I h0t ((I h0 1).toNat) x3) h0 1 (((u2 I h0t ((I h0 1).toNat) x3) h0 1) + 1)), L) (0, 0) ?_
  refine hK.1 44 [some (vR h0), none, some (vI x2), some (vI x3)] [vI 2, vR h0] (sh, (u2 (u2 I h0t ((I h0 1).toNat) x3) h0 1 (((u2 I h0t ((I h0 1).toNat) x3) h0 1) + 1)), L) (0, 0) ?_
  refine hK.1 45 [some (vR h0), none, some (vI x2), some (vI x3)] [vI 1, vI 2, vR h0] (sh, (u2 (u2 I h0t ((I h0 1).toNat) x3) h0 1 (((u2 I h0t ((I h0 1).toNat) x3) h0 1) + 1)), L) (0, 0) ?_
  refine hK.2 [false, false, false, false] _ _ _ _ _ ?_
  refine hK.1 46 [none, none, none, none] [vI x2, vI 1, vI 2, vR h0] (sh, (u2 (u2 I h0t ((I h0 1).toNat) x3) h0 1 (((u2 I h0t ((I h0 1).toNat) x3) h0 1) + 1)), L) (0, 0) ?_
  exact And.intro ⟨Ah0.1, Nat.le_of_ble_eq_true rfl, Nat.le_of_ble_eq_true rfl, Nat.le_of_ble_eq_true rfl, Nat.le_of_ble_eq_true rfl⟩ k
set_option maxRecDepth 4000 in
theorem B_X6_readTenths_49 {Q : oQ} {K : oK} (hK : oCl tb_X6_readTenths Q K) {sh : oS} {I : Nat → Nat → Int} {L : Nat → Nat → Int64}  (k : Q (some (vI 1)) (sh, I, L)) : K 49 [none, none, none, none] [] (sh, I, L) (0, 0) := by
  refine hK.1 49 [none, none, none, none] [] (sh, I, L) (0, 0) ?_
  refine hK.1 50 [none, none, none, none] [vI 1] (sh, I, L) (0, 0) ?_
  exact And.intro ⟨by decide, by decide, by decide⟩ k
set_option maxRecDepth 4000 in
theorem B_X6_readSteps_0 {Q : oQ} {K : oK} (hK : oCl tb_X6_readSteps Q K) {sh : oS} {I : Nat → Nat → Int} {L : Nat → Nat → Int64} {h0 : Nat} {x2 : Int} {h0e h0p h0t : Nat} (Ah0 : MarchAt sh h0 h0e h0p h0t) (n6a : inR (I h0 0)) (kt : I h0 0 < 10 → K 11 [some (vR h0), some (vR 1), some (vI x2), none, none] [] (sh, I, L) (0, 0)) (kf : ¬ (I h0 0 < 10) → K 9 [none, none, none, none, none] [] (sh, I, L) (0, 0)) : K 0 [some (vR h0), some (vR 1), some (vI x2), none, none] [] (sh, I, L) (0, 0) := by
  refine hK.1 0 [some (vR h0), some (vR 1), some (vI x2), none, none] [] (sh, I, L) (0, 0) ?_
  refine hK.1 1 [some (vR h0), some (vR 1), some (vI x2), none, none] [vR h0] (sh, I, L) (0, 0) ?_
  refine And.intro (mem1 Ah0.1) ?_
  refine hK.1 4 [some (vR h0), some (vR 1), some (vI x2), none, none] [vI (I h0 0)] (sh, I, L) (0, 0) ?_
  refine hK.1 6 [some (vR h0), some (vR 1), some (vI x2), none, none] [vI 10, vI (I h0 0)] (sh, I, L) (0, 0) ?_
  exact And.intro (And.intro n6a ⟨by decide, by decide⟩) (And.intro (fun h => hK.2 [true, true, true, false, false] _ _ _ _ _ (kt h)) (fun h => hK.2 [false, false, false, false, false] _ _ _ _ _ (kf h)))
set_option maxRecDepth 4000 in
theorem B_X6_readSteps_9 {Q : oQ} {K : oK} (hK : oCl tb_X6_readSteps Q K) {sh : oS} {I : Nat → Nat → Int} {L : Nat → Nat → Int64}  (k : Q (some (vI 0)) (sh, I, L)) : K 9 [none, none, none, none, none] [] (sh, I, L) (0, 0) := by
  refine hK.1 9 [none, none, none, none, none] [] (sh, I, L) (0, 0) ?_
  refine hK.1 10 [none, none, none, none, none] [vI 0] (sh, I, L) (0, 0) ?_
  exact And.intro ⟨by decide, by decide, by decide⟩ k
set_option maxRecDepth 4000 in
theorem B_X6_readSteps_11 {Q : oQ} {K : oK} (hK : oCl tb_X6_readSteps Q K) {sh : oS} (hs : Sh sh) {I : Nat → Nat → Int} {L : Nat → Nat → Int64} {h0 : Nat} {x2 : Int} (k : T_X8_take [vR 1, vI 102] (sh, I, L) (fun r mm => K 17 [some (vR h0), some (vR 1), some (vI x2), none, none] (r.toList ++ []) mm (0, 0))) : K 11 [some (vR h0), some (vR 1), some (vI x2), none, none] [] (sh, I, L) (0, 0) := by
  refine hK.1 11 [some (vR h0), some (vR 1), some (vI x2), none, none] [] (sh, I, L) (0, 0) ?_
  refine hK.1 12 [some (vR h0), some (vR 1), some (vI x2), none, none] [vR 1] (sh, I, L) (0, 0) ?_
  refine hK.1 14 [some (vR h0), some (vR 1), some (vI x2), none, none] [vI 102, vR 1] (sh, I, L) (0, 0) ?_
  exact And.intro ⟨(sk_1 hs), Nat.le_of_ble_eq_true rfl, Nat.le_of_ble_eq_true rfl, Nat.le_of_ble_eq_true rfl, Nat.le_of_ble_eq_true rfl⟩ k
set_option maxRecDepth 4000 in
theorem B_X6_readSteps_17 {Q : oQ} {K : oK} (hK : oCl tb_X6_readSteps Q K) {sh : oS} {I : Nat → Nat → Int} {L : Nat → Nat → Int64} {h0 : Nat} {x2 : Int} {s0 : Int} (n17 : inR s0) (kt : s0 = 0 → K 24 [some (vR h0), some (vR 1), some (vI x2), none, none] [] (sh, I, L) (0, 0)) (kf : ¬ (s0 = 0) → K 20 [some (vR h0), some (vR 1), some (vI x2), none, none] [] (sh, I, L) (0, 0)) : K 17 [some (vR h0), some (vR 1), some (vI x2), none, none] [vI s0] (sh, I, L) (0, 0) := by
  refine hK.1 17 [some (vR h0), some (vR 1), some (vI x2), none, none] [vI s0] (sh, I, L) (0, 0) ?_
  exact And.intro (n17) (And.intro (fun h => hK.2 [true, true, true, false, false] _ _ _ _ _ (kt h)) (fun h => hK.2 [true, true, true, false, false] _ _ _ _ _ (kf h)))
set_option maxRecDepth 4000 in
theorem B_X6_readSteps_20 {Q : oQ} {K : oK} (hK : oCl tb_X6_readSteps Q K) {sh : oS} {I : Nat → Nat → Int} {L : Nat → Nat → Int64} {h0 : Nat} {x2 : Int} (k : K 51 [some (vR h0), some (vR 1), some (vI x2), none, none] [vI 1] (sh, I, L) (0, 0)) : K 20 [some (vR h0), some (vR 1), some (vI x2), none, none] [] (sh, I, L) (0, 0) := by
  refine hK.1 20 [some (vR h0), some (vR 1), some (vI x2), none, none] [] (sh, I, L) (0, 0) ?_
  refine hK.1 21 [some (vR h0), some (vR 1), some (vI x2), none, none] [vI 1] (sh, I, L) (0, 0) ?_
  exact k
set_option maxRecDepth 4000 in
theorem B_X6_readSteps_24 {Q : oQ} {K : oK} (hK : oCl tb_X6_readSteps Q K) {sh : oS} (hs : Sh sh) {I : Nat → Nat → Int} {L : Nat → Nat → Int64} {h0 : Nat} {x2 : Int} (k : T_X8_take [vR 1, vI 98] (sh, I, L) (fun r mm => K 30 [some (vR h0), some (vR 1), some (vI x2), none, none] (r.toList ++ []) mm (0, 0))) : K 24 [some (vR h0), some (vR 1), some (vI x2), none, none] [] (sh, I, L) (0, 0) := by
  refine hK.1 24 [some (vR h0), some (vR 1), some (vI x2), none, none] [] (sh, I, L) (0, 0) ?_
  refine hK.1 25 [some (vR h0), some (vR 1), some (vI x2), none, none] [vR 1] (sh, I, L) (0, 0) ?_
  refine hK.1 27 [some (vR h0), some (vR 1), some (vI x2), none, none] [vI 98, vR 1] (sh, I, L) (0, 0) ?_
  exact And.intro ⟨(sk_1 hs), Nat.le_of_ble_eq_true rfl, Nat.le_of_ble_eq_true rfl, Nat.le_of_ble_eq_true rfl, Nat.le_of_ble_eq_true rfl⟩ k
set_option maxRecDepth 4000 in
theorem B_X6_readSteps_30 {Q : oQ} {K : oK} (hK : oCl tb_X6_readSteps Q K) {sh : oS} {I : Nat → Nat → Int} {L : Nat → Nat → Int64} {h0 : Nat} {x2 : Int} {s0 : Int} (n30 : inR s0) (kt : s0 = 0 → K 37 [some (vR h0), some (vR 1), some (vI x2), none, none] [] (sh, I, L) (0, 0)) (kf : ¬ (s0 = 0) → K 33 [some (vR h0), some (vR 1), some (vI x2), none, none] [] (sh, I, L) (0, 0)) : K 30 [some (vR h0), some (vR 1), some (vI x2), none, none] [vI s0] (sh, I, L) (0, 0) := by
  refine hK.1 30 [some (vR h0), some (vR 1), some (vI x2), none, none] [vI s0] (sh, I, L) (0, 0) ?_
  exact And.intro (n30) (And.intro (fun h => hK.2 [true, true, true, false, false] _ _ _ _ _ (kt h)) (fun h => hK.2 [true, true, true, false, false] _ _ _ _ _ (kf h)))
set_option maxRecDepth 4000 in
theorem B_X6_readSteps_33 {Q : oQ} {K : oK} (hK : oCl tb_X6_readSteps Q K) {sh : oS} {I : Nat → Nat → Int} {L : Nat → Nat → Int64} {h0 : Nat} {x2 : Int} (k : K 51 [some (vR h0), some (vR 1), some (vI x2), none, none] [vI (-1)] (sh, I, L) (0, 0)) : K 33 [some (vR h0), some (vR 1), some (vI x2), none, none] [] (sh, I, L) (0, 0) := by
  refine hK.1 33 [some (vR h0), some (vR 1), some (vI x2), none, none] [] (sh, I, L) (0, 0) ?_
  refine hK.1 34 [some (vR h0), some (vR 1), some (vI x2), none, none] [vI (-1)] (sh, I, L) (0, 0) ?_
  exact k
set_option maxRecDepth 4000 in
theorem B_X6_readSteps_37 {Q : oQ} {K : oK} (hK : oCl tb_X6_readSteps Q K) {sh : oS} (hs : Sh sh) {I : Nat → Nat → Int} {L : Nat → Nat → Int64} {h0 : Nat} {x2 : Int} (k : T_X8_take [vR 1, vI 115] (sh, I, L) (fun r mm => K 43 [some (vR h0), some (vR 1), some (vI x2), none, none] (r.toList ++ []) mm (0, 0))) : K 37 [some (vR h0), some (vR 1), some (vI x2), none, none] [] (sh, I, L) (0, 0) := by
  refine hK.1 37 [some (vR h0), some (vR 1), some (vI x2), none, none] [] (sh, I, L) (0, 0) ?_
  refine hK.1 38 [some (vR h0), some (vR 1), some (vI x2), none, none] [vR 1] (sh, I, L) (0, 0) ?_
  refine hK.1 40 [some (vR h0), some (vR 1), some (vI x2), none, none] [vI 115, vR 1] (sh, I, L) (0, 0) ?_
  exact And.intro ⟨(sk_1 hs), Nat.le_of_ble_eq_true rfl, Nat.le_of_ble_eq_true rfl, Nat.le_of_ble_eq_true rfl, Nat.le_of_ble_eq_true rfl⟩ k
set_option maxRecDepth 4000 in
theorem B_X6_readSteps_43 {Q : oQ} {K : oK} (hK : oCl tb_X6_readSteps Q K) {sh : oS} {I : Nat → Nat → Int} {L : Nat → Nat → Int64} {h0 : Nat} {x2 : Int} {s0 : Int} (n43 : inR s0) (kt : s0 = 0 → K 50 [some (vR h0), some (vR 1), some (vI x2), none, none] [] (sh, I, L) (0, 0)) (kf : ¬ (s0 = 0) → K 46 [some (vR h0), some (vR 1), some (vI x2), none, none] [] (sh, I, L) (0, 0)) : K 43 [some (vR h0), some (vR 1), some (vI x2), none, none] [vI s0] (sh, I, L) (0, 0) := by
  refine hK.1 43 [some (vR h0), some (vR 1), some (vI x2), none, none] [vI s0] (sh, I, L) (0, 0) ?_
  exact And.intro (n43) (And.intro (fun h => hK.2 [true, true, true, false, false] _ _ _ _ _ (kt h)) (fun h => hK.2 [true, true, true, false, false] _ _ _ _ _ (kf h)))
set_option maxRecDepth 4000 in
theorem B_X6_readSteps_46 {Q : oQ} {K : oK} (hK : oCl tb_X6_readSteps Q K) {sh : oS} {I : Nat → Nat → Int} {L : Nat → Nat → Int64} {h0 : Nat} {x2 : Int} (k : K 51 [some (vR h0), some (vR 1), some (vI x2), none, none] [vI 0] (sh, I, L) (0, 0)) : K 46 [some (vR h0), some (vR 1), some (vI x2), none, none] [] (sh, I, L) (0, 0) := by
  refine hK.1 46 [some (vR h0), some (vR 1), some (vI x2), none, none] [] (sh, I, L) (0, 0) ?_
  refine hK.1 47 [some (vR h0), some (vR 1), some (vI x2), none, none] [vI 0] (sh, I, L) (0, 0) ?_
  exact k
set_option maxRecDepth 4000 in
theorem B_X6_readSteps_50 {Q : oQ} {K : oK} (hK : oCl tb_X6_readSteps Q K) {sh : oS} {I : Nat → Nat → Int} {L : Nat → Nat → Int64} {h0 : Nat} {x2 : Int} (k : K 51 [some (vR h0), some (vR 1), some (vI x2), none, none] [vI 2] (sh, I, L) (0, 0)) : K 50 [some (vR h0), some (vR 1), some (vI x2), none, none] [] (sh, I, L) (0, 0) := by
  refine hK.1 50 [some (vR h0), some (vR 1), some (vI x2), none, none] [] (sh, I, L) (0, 0) ?_
  exact k
set_option maxRecDepth 4000 in
theorem B_X6_readSteps_51 {Q : oQ} {K : oK} (hK : oCl tb_X6_readSteps Q K) {sh : oS} {I : Nat → Nat → Int} {L : Nat → Nat → Int64} {h0 : Nat} {x2 : Int} {s0 : Int} (n54a : inR s0) (kt : ¬ s0 = 2 → K 59 [some (vR h0), some (vR 1), some (vI x2), some (vI s0), none] [] (sh, I, L) (0, 0)) (kf : ¬ (¬ s0 = 2) → K 57 [none, none, none, none, none] [] (sh, I, L) (0, 0)) : K 51 [some (vR h0), some (vR 1), some (vI x2), none, none] [vI s0] (sh, I, L) (0, 0) := by
  refine hK.1 51 [some (vR h0), some (vR 1), some (vI x2), none, none] [vI s0] (sh, I, L) (0, 0) ?_
  refine hK.1 52 [some (vR h0), some (vR 1), some (vI x2), some (vI s0), none] [] (sh, I, L) (0, 0) ?_
  refine hK.1 53 [some (vR h0), some (vR 1), some (vI x2), some (vI s0), none] [vI s0] (sh, I, L) (0, 0) ?_
  refine hK.1 54 [some (vR h0), some (vR 1), some (vI x2), some (vI s0), none] [vI 2, vI s0] (sh, I, L) (0, 0) ?_
  exact And.intro (And.intro n54a ⟨by decide, by decide⟩) (And.intro (fun h => hK.2 [true, true, true, true, false] _ _ _ _ _ (kt h)) (fun h => hK.2 [false, false, false, false, false] _ _ _ _ _ (kf h)))
set_option maxRecDepth 4000 in
theorem B_X6_readSteps_57 {Q : oQ} {K : oK} (hK : oCl tb_X6_readSteps Q K) {sh : oS} {I : Nat → Nat → Int} {L : Nat → Nat → Int64}  (k : Q (some (vI 0)) (sh, I, L)) : K 57 [none, none, none, none, none] [] (sh, I, L) (0, 0) := by
  refine hK.1 57 [none, none, none, none, none] [] (sh, I, L) (0, 0) ?_
  refine hK.1 58 [none, none, none, none, none] [vI 0] (sh, I, L) (0, 0) ?_
  exact And.intro ⟨by decide, by decide, by decide⟩ k
set_option maxRecDepth 4000 in
theorem B_X6_readSteps_59 {Q : oQ} {K : oK} (hK : oCl tb_X6_readSteps Q K) {sh : oS} (hs : Sh sh) {I : Nat → Nat → Int} {L : Nat → Nat → Int64} {h0 : Nat} {x2 : Int} {x3 : Int} {h0e h0p h0t : Nat} (Ah0 : MarchAt sh h0 h0e h0p h0t) (n70b : inR (10 - (I h0 0))) (k : T_X8_digit [vR 1, vI 2, vI (fMin 9 (10 - (I h0 0)))] (sh, I, L) (fun r mm => K 76 [some (vR h0), none, some (vI x2), some (vI x3), none] (r.toList ++ []) mm (0, 0))) : K 59 [some (vR h0), some (vR 1), some (vI x2), some (vI x3), none] [] (sh, I, L) (0, 0) := by
  refine hK.1 59 [some (vR h0), some (vR 1), some (vI x2), some (vI x3), none] [] (sh, I, L) (0, 0) ?_
  refine hK.1 60 [some (vR h0), some (vR 1), some (vI x2), some (vI x3), none] [vR 1] (sh, I, L) (0, 0) ?_
  refine hK.1 61 [some (vR h0), some (vR 1), some (vI x2), some (vI x3), none] [vI 2, vR 1] (sh, I, L) (0, 0) ?_
  refine hK.1 63 [some (vR h0), some (vR 1), some (vI x2), some (vI x3), none] [vI 9, vI 2, vR 1] (sh, I, L) (0, 0) ?_
  refine hK.1 65 [some (vR h0), some (vR 1), some (vI x2), some (vI x3), none] [vI 10, vI 9, vI 2, vR 1] (sh, I, L) (0, 0) ?_
  refine hK.1 66 [some (vR h0), some (vR 1), some (vI x2), some (vI x3), none] [vR h0, vI 10, vI 9, vI 2, vR 1] (sh, I, L) (0, 0) ?_
  refine And.intro (mem1 Ah0.1) ?_
  refine hK.1 69 [some (vR h0), some (vR 1), some (vI x2), some (vI x3), none] [vI (I h0 0), vI 10, vI 9, vI 2, vR 1] (sh, I, L) (0, 0) ?_
  refine hK.1 70 [some (vR h0), some (vR 1), some (vI x2), some (vI x3), none] [vI (10 - (I h0 0)), vI 9, vI 2, vR 1] (sh, I, L) (0, 0) ?_
  refine And.intro ⟨⟨by decide, by decide⟩, n70b, Nat.le_of_ble_eq_true rfl, Nat.le_of_ble_eq_true rfl, Nat.le_of_ble_eq_true rfl⟩ ?_
  refine hK.2 [true, false, true, true, false] _ _ _ _ _ ?_
  refine hK.1 73 [some (vR h0), none, some (vI x2), some (vI x3), none] [vI (fMin 9 (10 - (I h0 0))), vI 2, vR 1] (sh, I, L) (0, 0) ?_
  exact And.intro ⟨(sk_1 hs), Nat.le_of_ble_eq_true rfl, Nat.le_of_ble_eq_true rfl, Nat.le_of_ble_eq_true rfl, Nat.le_of_ble_eq_true rfl⟩ k
set_option maxRecDepth 4000 in
theorem B_X6_readSteps_76 {Q : oQ} {K : oK} (hK : oCl tb_X6_readSteps Q K) {sh : oS} {I : Nat → Nat → Int} {L : Nat → Nat → Int64} {h0 : Nat} {x2 : Int} {x3 : Int} {s0 : Int} (n82 : inR s0) (kt : 0 ≤ s0 → K 89 [none, none, some (vI x2), none, some (vI s0)] [vI x3, vR h0] (sh, I, L) (0, 0)) (kf : ¬ (0 ≤ s0) → K 85 [none, none, some (vI x2), none, none] [vI x3, vR h0] (sh, I, L) (0, 0)) : K 76 [some (vR h0), none, some (vI x2), some (vI x3), none] [vI s0] (sh, I, L) (0, 0) := by
  refine hK.1 76 [some (vR h0), none, some (vI x2), some (vI x3), none] [vI s0] (sh, I, L) (0, 0) ?_
  refine hK.1 78 [some (vR h0), none, some (vI x2), some (vI x3), some (vI s0)] [] (sh, I, L) (0, 0) ?_
  refine hK.1 79 [some (vR h0), none, some (vI x2), some (vI x3), some (vI s0)] [vR h0] (sh, I, L) (0, 0) ?_
  refine hK.1 80 [some (vR h0), none, some (vI x2), some (vI x3), some (vI s0)] [vI x3, vR h0] (sh, I, L) (0, 0) ?_
  refine hK.1 82 [some (vR h0), none, some (vI x2), some (vI x3), some (vI s0)] [vI s0, vI x3, vR h0] (sh, I, L) (0, 0) ?_
  exact And.intro (n82) (And.intro (fun h => hK.2 [false, false, true, false, true] _ _ _ _ _ (kt h)) (fun h => hK.2 [false, false, true, false, false] _ _ _ _ _ (kf h)))
set_option maxRecDepth 4000 in
theorem B_X6_readSteps_85 {Q : oQ} {K : oK} (hK : oCl tb_X6_readSteps Q K) {sh : oS} {I : Nat → Nat → Int} {L : Nat → Nat → Int64} {x2 : Int} {s0 : Nat} {s1 : Int} (k : K 91 [none, none, some (vI x2), none, none] [vI 1, vI s1, vR s0] (sh, I, L) (0, 0)) : K 85 [none, none, some (vI x2), none, none] [vI s1, vR s0] (sh, I, L) (0, 0) := by
  refine hK.1 85 [none, none, some (vI x2), none, none] [vI s1, vR s0] (sh, I, L) (0, 0) ?_
  refine hK.1 86 [none, none, some (vI x2), none, none] [vI 1, vI s1, vR s0] (sh, I, L) (0, 0) ?_
  exact k
set_option maxRecDepth 4000 in
theorem B_X6_readSteps_89 {Q : oQ} {K : oK} (hK : oCl tb_X6_readSteps Q K) {sh : oS} {I : Nat → Nat → Int} {L : Nat → Nat → Int64} {x2 : Int} {x4 : Int} {s0 : Nat} {s1 : Int} (k : K 91 [none, none, some (vI x2), none, none] [vI x4, vI s1, vR s0] (sh, I, L) (0, 0)) : K 89 [none, none, some (vI x2), none, some (vI x4)] [vI s1, vR s0] (sh, I, L) (0, 0) := by
  refine hK.1 89 [none, none, some (vI x2), none, some (vI x4)] [vI s1, vR s0] (sh, I, L) (0, 0) ?_
  refine hK.2 [false, false, true, false, false] _ _ _ _ _ ?_
  exact k
set_option maxRecDepth 4000 in
theorem B_X6_readSteps_91 {Q : oQ} {K : oK} (hK : oCl tb_X6_readSteps Q K) {sh : oS} {I : Nat → Nat → Int} {L : Nat → Nat → Int64} {x2 : Int} {s0 : Nat} {s1 : Int} {s2 : Int} {s0e s0p s0t : Nat} (k : T_X6_addDays [vR s0, vI s1, vI s2, vI x2] (sh, I, L) (fun r mm => K 95 [none, none, none, none, none] (r.toList ++ []) mm (0, 0))) (As0 : MarchAt sh s0 s0e s0p s0t) : K 91 [none, none, some (vI x2), none, none] [vI s2, vI s1, vR s0] (sh, I, L) (0, 0) := by
  refine hK.1 91 [none, none, some (vI x2), none, none] [vI s2, vI s1, vR s0] (sh, I, L) (0, 0) ?_
  refine hK.2 [false, false, false, false, false] _ _ _ _ _ ?_
  refine hK.1 92 [none, none, none, none, none] [vI x2, vI s2, vI s1, vR s0] (sh, I, L) (0, 0) ?_
  exact And.intro ⟨As0.1, Nat.le_of_ble_eq_true rfl, Nat.le_of_ble_eq_true rfl, Nat.le_of_ble_eq_true rfl, Nat.le_of_ble_eq_true rfl⟩ k
set_option maxRecDepth 4000 in
theorem B_X6_readSteps_95 {Q : oQ} {K : oK} (hK : oCl tb_X6_readSteps Q K) {sh : oS} {I : Nat → Nat → Int} {L : Nat → Nat → Int64}  (k : Q (some (vI 1)) (sh, I, L)) : K 95 [none, none, none, none, none] [] (sh, I, L) (0, 0) := by
  refine hK.1 95 [none, none, none, none, none] [] (sh, I, L) (0, 0) ?_
  refine hK.1 96 [none, none, none, none, none] [vI 1] (sh, I, L) (0, 0) ?_
  exact And.intro ⟨by decide, by decide, by decide⟩ k
set_option maxRecDepth 4000 in
theorem B_X6_read_0 {Q : oQ} {K : oK} (hK : oCl tb_X6_read Q K) {sh : oS} (hs : Sh sh) {I : Nat → Nat → Int} {L : Nat → Nat → Int64} {h0 : Nat} {h0e h0p h0t : Nat} (Ah0 : MarchAt sh h0 h0e h0p h0t) (k : T_X8_number [vR 1, vI 1, vI 2] (sh, (u2 (u2 (u2 I 1 2 0) h0 0 0) h0 1 0), L) (fun r mm => K 21 [some (vR h0), some (vR 1), none, none, none] (r.toList ++ []) mm (0, 0))) : K 0 [some (vR h0), some (vR 1), none, none, none] [] (sh, I, L) (0, 0) := by
  refine hK.1 0 [some (vR h0), some (vR 1), none, none, none] [] (sh, I, L) (0, 0) ?_
  refine hK.1 1 [some (vR h0), some (vR 1), none, none, none] [vR 1] (sh, I, L) (0, 0) ?_
  refine hK.1 2 [some (vR h0), some (vR 1), none, none, none] [vI 0, vR 1] (sh, I, L) (0, 0) ?_
  refine And.intro (mem1 (sk_1 hs)) ?_
  refine hK.1 5 [some (vR h0), some (vR 1), none, none, none] [] (sh, (u2 I 1 2 0), L) (0, 0) ?_
  refine hK.1 6 [some (vR h0), some (vR 1), none, none, none] [vR h0] (sh, (u2 I 1 2 0), L) (0, 0) ?_
  refine hK.1 7 [some (vR h0), some (vR 1), none, none, none] [vI 0, vR h0] (sh, (u2 I 1 2 0), L) (0, 0) ?_
  refine And.intro (mem1 Ah0.1) ?_
  refine hK.1 10 [some (vR h0), some (vR 1), none, none, none] [] (sh, (u2 (u2 I 1 2 0) h0 0 0), L) (0, 0) ?_
  refine hK.1 11 [some (vR h0), some (vR 1), none, none, none] [vR h0] (sh, (u2 (u2 I 1 2 0) h0 0 0), L) (0, 0) ?_
  refine hK.1 12 [some (vR h0), some (vR 1), none, none, none] [vI 0, vR h0] (sh, (u2 (u2 I 1 2 0) h0 0 0), L) (0, 0) ?_
  refine And.intro (mem1 Ah0.1) ?_
  refine hK.1 15 [some (vR h0), some (vR 1), none, none, none] [] (sh, (u2 (u2 (u2 I 1 2 0) h0 0 0) h0 1 0), L) (0, 0) ?_
  refine hK.1 16 [some (vR h0), some (vR 1), none, none, none] [vR 1] (sh, (u2 (u2 (u2 I 1 2 0) h0 0 0) h0 1 0), L) (0, 0) ?_
  refine hK.1 17 [some (vR h0), some (vR 1), none, none, none] [vI 1, vR 1] (sh, (u2 (u2 (u2 I 1 2 0) h0 0 0) h0 1 0), L) (0, 0) ?_
  refine hK.1 18 [some (vR h0), some (vR 1), none, none, none] [vI 2, vI 1, vR 1] (sh, (u2 (u2 (u2 I 1 2 0) h0 0 0) h0 1 0), L) (0, 0) ?_
  exact And.intro ⟨(sk_1 hs), Nat.le_of_ble_eq_true rfl, Nat.le_of_ble_eq_true rfl, Nat.le_of_ble_eq_true rfl, Nat.le_of_ble_eq_true rfl⟩ k
set_option maxRecDepth 4000 in
theorem B_X6_read_21 {Q : oQ} {K : oK} (hK : oCl tb_X6_read Q K) {sh : oS} {I : Nat → Nat → Int} {L : Nat → Nat → Int64} {h0 : Nat} {s0 : Int} (n23 : inR s0) (kt : s0 < 0 → K 35 [none, none, none, none, none] [] (sh, I, L) (0, 0)) (kf : ¬ (s0 < 0) → K 26 [some (vR h0), some (vR 1), some (vI s0), none, none] [] (sh, I, L) (0, 0)) : K 21 [some (vR h0), some (vR 1), none, none, none] [vI s0] (sh, I, L) (0, 0) := by
  refine hK.1 21 [some (vR h0), some (vR 1), none, none, none] [vI s0] (sh, I, L) (0, 0) ?_
  refine hK.1 22 [some (vR h0), some (vR 1), some (vI s0), none, none] [] (sh, I, L) (0, 0) ?_
  refine hK.1 23 [some (vR h0), some (vR 1), some (vI s0), none, none] [vI s0] (sh, I, L) (0, 0) ?_
  exact And.intro (n23) (And.intro (fun h => hK.2 [false, false, false, false, false] _ _ _ _ _ (kt h)) (fun h => hK.2 [true, true, true, false, false] _ _ _ _ _ (kf h)))
set_option maxRecDepth 4000 in
theorem B_X6_read_26 {Q : oQ} {K : oK} (hK : oCl tb_X6_read Q K) {sh : oS} (hs : Sh sh) {I : Nat → Nat → Int} {L : Nat → Nat → Int64} {h0 : Nat} {x2 : Int} (k : T_X8_take [vR 1, vI 58] (sh, I, L) (fun r mm => K 32 [some (vR h0), some (vR 1), some (vI x2), none, none] (r.toList ++ []) mm (0, 0))) : K 26 [some (vR h0), some (vR 1), some (vI x2), none, none] [] (sh, I, L) (0, 0) := by
  refine hK.1 26 [some (vR h0), some (vR 1), some (vI x2), none, none] [] (sh, I, L) (0, 0) ?_
  refine hK.1 27 [some (vR h0), some (vR 1), some (vI x2), none, none] [vR 1] (sh, I, L) (0, 0) ?_
  refine hK.1 29 [some (vR h0), some (vR 1), some (vI x2), none, none] [vI 58, vR 1] (sh, I, L) (0, 0) ?_
  exact And.intro ⟨(sk_1 hs), Nat.le_of_ble_eq_true rfl, Nat.le_of_ble_eq_true rfl, Nat.le_of_ble_eq_true rfl, Nat.le_of_ble_eq_true rfl⟩ k
set_option maxRecDepth 4000 in
theorem B_X6_read_32 {Q : oQ} {K : oK} (hK : oCl tb_X6_read Q K) {sh : oS} {I : Nat → Nat → Int} {L : Nat → Nat → Int64} {h0 : Nat} {x2 : Int} {s0 : Int} (n32 : inR s0) (kt : ¬ s0 = 0 → K 37 [some (vR h0), some (vR 1), some (vI x2), none, none] [] (sh, I, L) (0, 0)) (kf : ¬ (¬ s0 = 0) → K 35 [none, none, none, none, none] [] (sh, I, L) (0, 0)) : K 32 [some (vR h0), some (vR 1), some (vI x2), none, none] [vI s0] (sh, I, L) (0, 0) := by
  refine hK.1 32 [some (vR h0), some (vR 1), some (vI x2), none, none] [vI s0] (sh, I, L) (0, 0) ?_
  exact And.intro (n32) (And.intro (fun h => hK.2 [true, true, true, false, false] _ _ _ _ _ (kt h)) (fun h => hK.2 [false, false, false, false, false] _ _ _ _ _ (kf h)))
set_option maxRecDepth 4000 in
theorem B_X6_read_35 {Q : oQ} {K : oK} (hK : oCl tb_X6_read Q K) {sh : oS} {I : Nat → Nat → Int} {L : Nat → Nat → Int64}  (k : Q (some (vI 0)) (sh, I, L)) : K 35 [none, none, none, none, none] [] (sh, I, L) (0, 0) := by
  refine hK.1 35 [none, none, none, none, none] [] (sh, I, L) (0, 0) ?_
  refine hK.1 36 [none, none, none, none, none] [vI 0] (sh, I, L) (0, 0) ?_
  exact And.intro ⟨by decide, by decide, by decide⟩ k
set_option maxRecDepth 4000 in
theorem B_X6_read_37 {Q : oQ} {K : oK} (hK : oCl tb_X6_read Q K) {sh : oS} {I : Nat → Nat → Int} {L : Nat → Nat → Int64} {h0 : Nat} {x2 : Int} (k : K 39 [some (vR h0), some (vR 1), some (vI x2), some (vI 0), none] [] (sh, I, L) (0, 0)) : K 37 [some (vR h0), some (vR 1), some (vI x2), none, none] [] (sh, I, L) (0, 0) := by
  refine hK.1 37 [some (vR h0), some (vR 1), some (vI x2), none, none] [] (sh, I, L) (0, 0) ?_
  refine hK.1 38 [some (vR h0), some (vR 1), some (vI x2), none, none] [vI 0] (sh, I, L) (0, 0) ?_
  exact k
set_option maxRecDepth 4000 in
theorem B_X6_read_39 {Q : oQ} {K : oK} (hK : oCl tb_X6_read Q K) {sh : oS} {I : Nat → Nat → Int} {L : Nat → Nat → Int64} {h0 : Nat} {x2 : Int} {x3 : Int} (n42a : inR x3) (kt : 60 ≤ x3 → K 140 [some (vR h0), none, none, none, none] [] (sh, I, L) (0, 0)) (kf : ¬ (60 ≤ x3) → K 45 [some (vR h0), some (vR 1), some (vI x2), some (vI x3), none] [] (sh, I, L) (0, 0)) : K 39 [some (vR h0), some (vR 1), some (vI x2), some (vI x3), none] [] (sh, I, L) (0, 0) := by
  refine hK.1 39 [some (vR h0), some (vR 1), some (vI x2), some (vI x3), none] [] (sh, I, L) (0, 0) ?_
  refine hK.1 40 [some (vR h0), some (vR 1), some (vI x2), some (vI x3), none] [vI x3] (sh, I, L) (0, 0) ?_
  refine hK.1 42 [some (vR h0), some (vR 1), some (vI x2), some (vI x3), none] [vI 60, vI x3] (sh, I, L) (0, 0) ?_
  exact And.intro (And.intro n42a ⟨by decide, by decide⟩) (And.intro (fun h => hK.2 [true, false, false, false, false] _ _ _ _ _ (kt h)) (fun h => hK.2 [true, true, true, true, false] _ _ _ _ _ (kf h)))
set_option maxRecDepth 4000 in
theorem B_X6_read_45 {Q : oQ} {K : oK} (hK : oCl tb_X6_read Q K) {sh : oS} (hs : Sh sh) {I : Nat → Nat → Int} {L : Nat → Nat → Int64} {h0 : Nat} {x2 : Int} {x3 : Int} (k : T_X8_atEnd [vR 1] (sh, I, L) (fun r mm => K 49 [some (vR h0), some (vR 1), some (vI x2), some (vI x3), none] (r.toList ++ []) mm (0, 0))) : K 45 [some (vR h0), some (vR 1), some (vI x2), some (vI x3), none] [] (sh, I, L) (0, 0) := by
  refine hK.1 45 [some (vR h0), some (vR 1), some (vI x2), some (vI x3), none] [] (sh, I, L) (0, 0) ?_
  refine hK.1 46 [some (vR h0), some (vR 1), some (vI x2), some (vI x3), none] [vR 1] (sh, I, L) (0, 0) ?_
  exact And.intro ⟨(sk_1 hs), Nat.le_of_ble_eq_true rfl, Nat.le_of_ble_eq_true rfl, Nat.le_of_ble_eq_true rfl, Nat.le_of_ble_eq_true rfl⟩ k
set_option maxRecDepth 4000 in
theorem B_X6_read_49 {Q : oQ} {K : oK} (hK : oCl tb_X6_read Q K) {sh : oS} {I : Nat → Nat → Int} {L : Nat → Nat → Int64} {h0 : Nat} {x2 : Int} {x3 : Int} {s0 : Int} (n49 : inR s0) (kt : ¬ s0 = 0 → K 140 [some (vR h0), none, none, none, none] [] (sh, I, L) (0, 0)) (kf : ¬ (¬ s0 = 0) → K 52 [some (vR h0), some (vR 1), some (vI x2), some (vI x3), none] [] (sh, I, L) (0, 0)) : K 49 [some (vR h0), some (vR 1), some (vI x2), some (vI x3), none] [vI s0] (sh, I, L) (0, 0) := by
  refine hK.1 49 [some (vR h0), some (vR 1), some (vI x2), some (vI x3), none] [vI s0] (sh, I, L) (0, 0) ?_
  exact And.intro (n49) (And.intro (fun h => hK.2 [true, false, false, false, false] _ _ _ _ _ (kt h)) (fun h => hK.2 [true, true, true, true, false] _ _ _ _ _ (kf h)))
set_option maxRecDepth 4000 in
theorem B_X6_read_52 {Q : oQ} {K : oK} (hK : oCl tb_X6_read Q K) {sh : oS} (hs : Sh sh) {I : Nat → Nat → Int} {L : Nat → Nat → Int64} {h0 : Nat} {x2 : Int} {x3 : Int} (k : T_X8_take [vR 1, vI 109] (sh, I, L) (fun r mm => K 58 [some (vR h0), some (vR 1), some (vI x2), some (vI x3), none] (r.toList ++ []) mm (0, 0))) : K 52 [some (vR h0), some (vR 1), some (vI x2), some (vI x3), none] [] (sh, I, L) (0, 0) := by
  refine hK.1 52 [some (vR h0), some (vR 1), some (vI x2), some (vI x3), none] [] (sh, I, L) (0, 0) ?_
  refine hK.1 53 [some (vR h0), some (vR 1), some (vI x2), some (vI x3), none] [vR 1] (sh, I, L) (0, 0) ?_
  refine hK.1 55 [some (vR h0), some (vR 1), some (vI x2), some (vI x3), none] [vI 109, vR 1] (sh, I, L) (0, 0) ?_
  exact And.intro ⟨(sk_1 hs), Nat.le_of_ble_eq_true rfl, Nat.le_of_ble_eq_true rfl, Nat.le_of_ble_eq_true rfl, Nat.le_of_ble_eq_true rfl⟩ k
set_option maxRecDepth 4000 in
theorem B_X6_read_58 {Q : oQ} {K : oK} (hK : oCl tb_X6_read Q K) {sh : oS} {I : Nat → Nat → Int} {L : Nat → Nat → Int64} {h0 : Nat} {x2 : Int} {x3 : Int} {s0 : Int} (n58 : inR s0) (kt : s0 = 0 → K 82 [some (vR h0), some (vR 1), some (vI x2), some (vI x3), none] [] (sh, I, L) (0, 0)) (kf : ¬ (s0 = 0) → K 61 [some (vR h0), some (vR 1), none, some (vI x3), none] [] (sh, I, L) (0, 0)) : K 58 [some (vR h0), some (vR 1), some (vI x2), some (vI x3), none] [vI s0] (sh, I, L) (0, 0) := by
  refine hK.1 58 [some (vR h0), some (vR 1), some (vI x2), some (vI x3), none] [vI s0] (sh, I, L) (0, 0) ?_
  exact And.intro (n58) (And.intro (fun h => hK.2 [true, true, true, true, false] _ _ _ _ _ (kt h)) (fun h => hK.2 [true, true, false, true, false] _ _ _ _ _ (kf h)))
set_option maxRecDepth 4000 in
theorem B_X6_read_61 {Q : oQ} {K : oK} (hK : oCl tb_X6_read Q K) {sh : oS} (hs : Sh sh) {I : Nat → Nat → Int} {L : Nat → Nat → Int64} {h0 : Nat} {x3 : Int} (k : T_X8_number [vR 1, vI 1, vI 2] (sh, I, L) (fun r mm => K 67 [some (vR h0), some (vR 1), none, some (vI x3), none] (r.toList ++ []) mm (0, 0))) : K 61 [some (vR h0), some (vR 1), none, some (vI x3), none] [] (sh, I, L) (0, 0) := by
  refine hK.1 61 [some (vR h0), some (vR 1), none, some (vI x3), none] [] (sh, I, L) (0, 0) ?_
  refine hK.1 62 [some (vR h0), some (vR 1), none, some (vI x3), none] [vR 1] (sh, I, L) (0, 0) ?_
  refine hK.1 63 [some (vR h0), some (vR 1), none, some (vI x3), none] [vI 1, vR 1] (sh, I, L) (0, 0) ?_
  refine hK.1 64 [some (vR h0), some (vR 1), none, some (vI x3), none] [vI 2, vI 1, vR 1] (sh, I, L) (0, 0) ?_
  exact And.intro ⟨(sk_1 hs), Nat.le_of_ble_eq_true rfl, Nat.le_of_ble_eq_true rfl, Nat.le_of_ble_eq_true rfl, Nat.le_of_ble_eq_true rfl⟩ k
set_option maxRecDepth 4000 in
theorem B_X6_read_67 {Q : oQ} {K : oK} (hK : oCl tb_X6_read Q K) {sh : oS} {I : Nat → Nat → Int} {L : Nat → Nat → Int64} {h0 : Nat} {x3 : Int} {s0 : Int} (n69 : inR s0) (kt : s0 ≤ 0 → K 76 [some (vR h0), some (vR 1), some (vI s0), some (vI x3), none] [] (sh, I, L) (0, 0)) (kf : ¬ (s0 ≤ 0) → K 72 [some (vR h0), some (vR 1), some (vI s0), some (vI x3), none] [] (sh, I, L) (0, 0)) : K 67 [some (vR h0), some (vR 1), none, some (vI x3), none] [vI s0] (sh, I, L) (0, 0) := by
  refine hK.1 67 [some (vR h0), some (vR 1), none, some (vI x3), none] [vI s0] (sh, I, L) (0, 0) ?_
  refine hK.1 68 [some (vR h0), some (vR 1), some (vI s0), some (vI x3), none] [] (sh, I, L) (0, 0) ?_
  refine hK.1 69 [some (vR h0), some (vR 1), some (vI s0), some (vI x3), none] [vI s0] (sh, I, L) (0, 0) ?_
  exact And.intro (n69) (And.intro (fun h => hK.2 [true, true, true, true, false] _ _ _ _ _ (kt h)) (fun h => hK.2 [true, true, true, true, false] _ _ _ _ _ (kf h)))
set_option maxRecDepth 4000 in
theorem B_X6_read_72 {Q : oQ} {K : oK} (hK : oCl tb_X6_read Q K) {sh : oS} {I : Nat → Nat → Int} {L : Nat → Nat → Int64} {h0 : Nat} {x2 : Int} {x3 : Int} (k : K 77 [some (vR h0), some (vR 1), some (vI x2), some (vI x3), none] [vI 1] (sh, I, L) (0, 0)) : K 72 [some (vR h0), some (vR 1), some (vI x2), some (vI x3), none] [] (sh, I, L) (0, 0) := by
  refine hK.1 72 [some (vR h0), some (vR 1), some (vI x2), some (vI x3), none] [] (sh, I, L) (0, 0) ?_
  refine hK.1 73 [some (vR h0), some (vR 1), some (vI x2), some (vI x3), none] [vI 1] (sh, I, L) (0, 0) ?_
  exact k
set_option maxRecDepth 4000 in
theorem B_X6_read_76 {Q : oQ} {K : oK} (hK : oCl tb_X6_read Q K) {sh : oS} {I : Nat → Nat → Int} {L : Nat → Nat → Int64} {h0 : Nat} {x2 : Int} {x3 : Int} (k : K 77 [some (vR h0), some (vR 1), some (vI x2), some (vI x3), none] [vI 0] (sh, I, L) (0, 0)) : K 76 [some (vR h0), some (vR 1), some (vI x2), some (vI x3), none] [] (sh, I, L) (0, 0) := by
  refine hK.1 76 [some (vR h0), some (vR 1), some (vI x2), some (vI x3), none] [] (sh, I, L) (0, 0) ?_
  exact k
set_option maxRecDepth 4000 in
theorem B_X6_read_77 {Q : oQ} {K : oK} (hK : oCl tb_X6_read Q K) {sh : oS} {I : Nat → Nat → Int} {L : Nat → Nat → Int64} {h0 : Nat} {x2 : Int} {x3 : Int} {s0 : Int} (k : K 127 [some (vR h0), some (vR 1), some (vI x2), some (vI x3), some (vI s0)] [] (sh, I, L) (0, 0)) : K 77 [some (vR h0), some (vR 1), some (vI x2), some (vI x3), none] [vI s0] (sh, I, L) (0, 0) := by
  refine hK.1 77 [some (vR h0), some (vR 1), some (vI x2), some (vI x3), none] [vI s0] (sh, I, L) (0, 0) ?_
  refine hK.1 79 [some (vR h0), some (vR 1), some (vI x2), some (vI x3), some (vI s0)] [] (sh, I, L) (0, 0) ?_
  exact k
set_option maxRecDepth 4000 in
theorem B_X6_read_82 {Q : oQ} {K : oK} (hK : oCl tb_X6_read Q K) {sh : oS} {I : Nat → Nat → Int} {L : Nat → Nat → Int64} {h0 : Nat} {x2 : Int} {x3 : Int} {h0e h0p h0t : Nat} (Ah0 : MarchAt sh h0 h0e h0p h0t) (n88a : inR (I h0 0)) (kt : 10 ≤ I h0 0 → K 119 [some (vR h0), some (vR 1), some (vI x2), some (vI x3), none] [] (sh, I, L) (0, 0)) (kf : ¬ (10 ≤ I h0 0) → K 91 [some (vR h0), some (vR 1), some (vI x2), some (vI x3), none] [] (sh, I, L) (0, 0)) : K 82 [some (vR h0), some (vR 1), some (vI x2), some (vI x3), none] [] (sh, I, L) (0, 0) := by
  refine hK.1 82 [some (vR h0), some (vR 1), some (vI x2), some (vI x3), none] [] (sh, I, L) (0, 0) ?_
  refine hK.1 83 [some (vR h0), some (vR 1), some (vI x2), some (vI x3), none] [vR h0] (sh, I, L) (0, 0) ?_
  refine And.intro (mem1 Ah0.1) ?_
  refine hK.1 86 [some (vR h0), some (vR 1), some (vI x2), some (vI x3), none] [vI (I h0 0)] (sh, I, L) (0, 0) ?_
  refine hK.1 88 [some (vR h0), some (vR 1), some (vI x2), some (vI x3), none] [vI 10, vI (I h0 0)] (sh, I, L) (0, 0) ?_
  exact And.intro (And.intro n88a ⟨by decide, by decide⟩) (And.intro (fun h => hK.2 [true, true, true, true, false] _ _ _ _ _ (kt h)) (fun h => hK.2 [true, true, true, true, false] _ _ _ _ _ (kf h)))
set_option maxRecDepth 4000 in
theorem B_X6_read_91 {Q : oQ} {K : oK} (hK : oCl tb_X6_read Q K) {sh : oS} {I : Nat → Nat → Int} {L : Nat → Nat → Int64} {h0 : Nat} {x2 : Int} {x3 : Int} {h0e h0p h0t : Nat} (Ah0 : MarchAt sh h0 h0e h0p h0t) (n96a : inR (I h0 1)) (kt : 2 ≤ I h0 1 → K 119 [some (vR h0), some (vR 1), some (vI x2), some (vI x3), none] [] (sh, I, L) (0, 0)) (kf : ¬ (2 ≤ I h0 1) → K 99 [some (vR h0), some (vR 1), some (vI x2), some (vI x3), none] [] (sh, I, L) (0, 0)) : K 91 [some (vR h0), some (vR 1), some (vI x2), some (vI x3), none] [] (sh, I, L) (0, 0) := by
  refine hK.1 91 [some (vR h0), some (vR 1), some (vI x2), some (vI x3), none] [] (sh, I, L) (0, 0) ?_
  refine hK.1 92 [some (vR h0), some (vR 1), some (vI x2), some (vI x3), none] [vR h0] (sh, I, L) (0, 0) ?_
  refine And.intro (mem1 Ah0.1) ?_
  refine hK.1 95 [some (vR h0), some (vR 1), some (vI x2), some (vI x3), none] [vI (I h0 1)] (sh, I, L) (0, 0) ?_
  refine hK.1 96 [some (vR h0), some (vR 1), some (vI x2), some (vI x3), none] [vI 2, vI (I h0 1)] (sh, I, L) (0, 0) ?_
  exact And.intro (And.intro n96a ⟨by decide, by decide⟩) (And.intro (fun h => hK.2 [true, true, true, true, false] _ _ _ _ _ (kt h)) (fun h => hK.2 [true, true, true, true, false] _ _ _ _ _ (kf h)))
set_option maxRecDepth 4000 in
theorem B_X6_read_99 {Q : oQ} {K : oK} (hK : oCl tb_X6_read Q K) {sh : oS} (hs : Sh sh) {I : Nat → Nat → Int} {L : Nat → Nat → Int64} {h0 : Nat} {x2 : Int} {x3 : Int} (k : T_X8_take [vR 1, vI 99] (sh, I, L) (fun r mm => K 105 [some (vR h0), some (vR 1), some (vI x2), some (vI x3), none] (r.toList ++ []) mm (0, 0))) : K 99 [some (vR h0), some (vR 1), some (vI x2), some (vI x3), none] [] (sh, I, L) (0, 0) := by
  refine hK.1 99 [some (vR h0), some (vR 1), some (vI x2), some (vI x3), none] [] (sh, I, L) (0, 0) ?_
  refine hK.1 100 [some (vR h0), some (vR 1), some (vI x2), some (vI x3), none] [vR 1] (sh, I, L) (0, 0) ?_
  refine hK.1 102 [some (vR h0), some (vR 1), some (vI x2), some (vI x3), none] [vI 99, vR 1] (sh, I, L) (0, 0) ?_
  exact And.intro ⟨(sk_1 hs), Nat.le_of_ble_eq_true rfl, Nat.le_of_ble_eq_true rfl, Nat.le_of_ble_eq_true rfl, Nat.le_of_ble_eq_true rfl⟩ k
set_option maxRecDepth 4000 in
theorem B_X6_read_105 {Q : oQ} {K : oK} (hK : oCl tb_X6_read Q K) {sh : oS} {I : Nat → Nat → Int} {L : Nat → Nat → Int64} {h0 : Nat} {x2 : Int} {x3 : Int} {s0 : Int} (n105 : inR s0) (kt : s0 = 0 → K 119 [some (vR h0), some (vR 1), some (vI x2), some (vI x3), none] [] (sh, I, L) (0, 0)) (kf : ¬ (s0 = 0) → K 108 [some (vR h0), some (vR 1), some (vI x2), some (vI x3), none] [] (sh, I, L) (0, 0)) : K 105 [some (vR h0), some (vR 1), some (vI x2), some (vI x3), none] [vI s0] (sh, I, L) (0, 0) := by
  refine hK.1 105 [some (vR h0), some (vR 1), some (vI x2), some (vI x3), none] [vI s0] (sh, I, L) (0, 0) ?_
  exact And.intro (n105) (And.intro (fun h => hK.2 [true, true, true, true, false] _ _ _ _ _ (kt h)) (fun h => hK.2 [true, true, true, true, false] _ _ _ _ _ (kf h)))
set_option maxRecDepth 4000 in
theorem B_X6_read_108 {Q : oQ} {K : oK} (hK : oCl tb_X6_read Q K) {sh : oS} {I : Nat → Nat → Int} {L : Nat → Nat → Int64} {h0 : Nat} {x2 : Int} {x3 : Int} {h0e h0p h0t : Nat} (k : T_X6_readTenths [vR h0, vR 1, vI x2] (sh, I, L) (fun r mm => K 114 [some (vR h0), some (vR 1), some (vI x2), some (vI x3), none] (r.toList ++ []) mm (0, 0))) (Ah0 : MarchAt sh h0 h0e h0p h0t) : K 108 [some (vR h0), some (vR 1), some (vI x2), some (vI x3), none] [] (sh, I, L) (0, 0) := by
  refine hK.1 108 [some (vR h0), some (vR 1), some (vI x2), some (vI x3), none] [] (sh, I, L) (0, 0) ?_
  refine hK.1 109 [some (vR h0), some (vR 1), some (vI x2), some (vI x3), none] [vR h0] (sh, I, L) (0, 0) ?_
  refine hK.1 110 [some (vR h0), some (vR 1), some (vI x2), some (vI x3), none] [vR 1, vR h0] (sh, I, L) (0, 0) ?_
  refine hK.1 111 [some (vR h0), some (vR 1), some (vI x2), some (vI x3), none] [vI x2, vR 1, vR h0] (sh, I, L) (0, 0) ?_
  exact And.intro ⟨Ah0.1, Nat.le_of_ble_eq_true rfl, Nat.le_of_ble_eq_true rfl, Nat.le_of_ble_eq_true rfl, Nat.le_of_ble_eq_true rfl⟩ k
set_option maxRecDepth 4000 in
theorem B_X6_read_114 {Q : oQ} {K : oK} (hK : oCl tb_X6_read Q K) {sh : oS} {I : Nat → Nat → Int} {L : Nat → Nat → Int64} {h0 : Nat} {x2 : Int} {x3 : Int} {s0 : Int} (k : K 127 [some (vR h0), some (vR 1), some (vI x2), some (vI x3), some (vI s0)] [] (sh, I, L) (0, 0)) : K 114 [some (vR h0), some (vR 1), some (vI x2), some (vI x3), none] [vI s0] (sh, I, L) (0, 0) := by
  refine hK.1 114 [some (vR h0), some (vR 1), some (vI x2), some (vI x3), none] [vI s0] (sh, I, L) (0, 0) ?_
  refine hK.1 116 [some (vR h0), some (vR 1), some (vI x2), some (vI x3), some (vI s0)] [] (sh, I, L) (0, 0) ?_
  exact k
set_option maxRecDepth 4000 in
theorem B_X6_read_119 {Q : oQ} {K : oK} (hK : oCl tb_X6_read Q K) {sh : oS} {I : Nat → Nat → Int} {L : Nat → Nat → Int64} {h0 : Nat} {x2 : Int} {x3 : Int} {h0e h0p h0t : Nat} (k : T_X6_readSteps [vR h0, vR 1, vI x2] (sh, I, L) (fun r mm => K 125 [some (vR h0), some (vR 1), some (vI x2), some (vI x3), none] (r.toList ++ []) mm (0, 0))) (Ah0 : MarchAt sh h0 h0e h0p h0t) : K 119 [some (vR h0), some (vR 1), some (vI x2), some (vI x3), none] [] (sh, I, L) (0, 0) := by
  refine hK.1 119 [some (vR h0), some (vR 1), some (vI x2), some (vI x3), none] [] (sh, I, L) (0, 0) ?_
  refine hK.1 120 [some (vR h0), some (vR 1), some (vI x2), some (vI x3), none] [vR h0] (sh, I, L) (0, 0) ?_
  refine hK.1 121 [some (vR h0), some (vR 1), some (vI x2), some (vI x3), none] [vR 1, vR h0] (sh, I, L) (0, 0) ?_
  refine hK.1 122 [some (vR h0), some (vR 1), some (vI x2), some (vI x3), none] [vI x2, vR 1, vR h0] (sh, I, L) (0, 0) ?_
  exact And.intro ⟨Ah0.1, Nat.le_of_ble_eq_true rfl, Nat.le_of_ble_eq_true rfl, Nat.le_of_ble_eq_true rfl, Nat.le_of_ble_eq_true rfl⟩ k
set_option maxRecDepth 4000 in
theorem B_X6_read_125 {Q : oQ} {K : oK} (hK : oCl tb_X6_read Q K) {sh : oS} {I : Nat → Nat → Int} {L : Nat → Nat → Int64} {h0 : Nat} {x2 : Int} {x3 : Int} {s0 : Int} (k : K 127 [some (vR h0), some (vR 1), some (vI x2), some (vI x3), some (vI s0)] [] (sh, I, L) (0, 0)) : K 125 [some (vR h0), some (vR 1), some (vI x2), some (vI x3), none] [vI s0] (sh, I, L) (0, 0) := by
  refine hK.1 125 [some (vR h0), some (vR 1), some (vI x2), some (vI x3), none] [vI s0] (sh, I, L) (0, 0) ?_
  exact k
set_option maxRecDepth 4000 in
theorem B_X6_read_127 {Q : oQ} {K : oK} (hK : oCl tb_X6_read Q K) {sh : oS} {I : Nat → Nat → Int} {L : Nat → Nat → Int64} {h0 : Nat} {x2 : Int} {x3 : Int} {x4 : Int} (n129 : inR x4) (kt : ¬ x4 = 0 → K 134 [some (vR h0), some (vR 1), some (vI x2), some (vI x3), none] [] (sh, I, L) (0, 0)) (kf : ¬ (¬ x4 = 0) → K 132 [none, none, none, none, none] [] (sh, I, L) (0, 0)) : K 127 [some (vR h0), some (vR 1), some (vI x2), some (vI x3), some (vI x4)] [] (sh, I, L) (0, 0) := by
  refine hK.1 127 [some (vR h0), some (vR 1), some (vI x2), some (vI x3), some (vI x4)] [] (sh, I, L) (0, 0) ?_
  refine hK.1 129 [some (vR h0), some (vR 1), some (vI x2), some (vI x3), some (vI x4)] [vI x4] (sh, I, L) (0, 0) ?_
  exact And.intro (n129) (And.intro (fun h => hK.2 [true, true, true, true, false] _ _ _ _ _ (kt h)) (fun h => hK.2 [false, false, false, false, false] _ _ _ _ _ (kf h)))
set_option maxRecDepth 4000 in
theorem B_X6_read_132 {Q : oQ} {K : oK} (hK : oCl tb_X6_read Q K) {sh : oS} {I : Nat → Nat → Int} {L : Nat → Nat → Int64}  (k : Q (some (vI 0)) (sh, I, L)) : K 132 [none, none, none, none, none] [] (sh, I, L) (0, 0) := by
  refine hK.1 132 [none, none, none, none, none] [] (sh, I, L) (0, 0) ?_
  refine hK.1 133 [none, none, none, none, none] [vI 0] (sh, I, L) (0, 0) ?_
  exact And.intro ⟨by decide, by decide, by decide⟩ k
set_option maxRecDepth 4000 in
theorem B_X6_read_134 {Q : oQ} {K : oK} (hK : oCl tb_X6_read Q K) {sh : oS} {I : Nat → Nat → Int} {L : Nat → Nat → Int64} {h0 : Nat} {x2 : Int} {x3 : Int} (k : K 39 [some (vR h0), some (vR 1), some (vI x2), some (vI (x3 + 1)), none] [] (sh, I, L) (0, 0)) : K 134 [some (vR h0), some (vR 1), some (vI x2), some (vI x3), none] [] (sh, I, L) (0, 0) := by
  refine hK.1 134 [some (vR h0), some (vR 1), some (vI x2), some (vI x3), none] [] (sh, I, L) (0, 0) ?_
  refine hK.1 137 [some (vR h0), some (vR 1), some (vI x2), some (vI (x3 + 1)), none] [] (sh, I, L) (0, 0) ?_
  exact k
set_option maxRecDepth 4000 in
theorem B_X6_read_140 {Q : oQ} {K : oK} (hK : oCl tb_X6_read Q K) {sh : oS} {I : Nat → Nat → Int} {L : Nat → Nat → Int64} {h0 : Nat} {h0e h0p h0t : Nat} (Ah0 : MarchAt sh h0 h0e h0p h0t) (n144 : inR (I h0 0)) (kt : I h0 0 ≤ 0 → K 151 [none, none, none, none, none] [] (sh, I, L) (0, 0)) (kf : ¬ (I h0 0 ≤ 0) → K 147 [none, none, none, none, none] [] (sh, I, L) (0, 0)) : K 140 [some (vR h0), none, none, none, none] [] (sh, I, L) (0, 0) := by
  refine hK.1 140 [some (vR h0), none, none, none, none] [] (sh, I, L) (0, 0) ?_
  refine hK.1 141 [some (vR h0), none, none, none, none] [vR h0] (sh, I, L) (0, 0) ?_
  refine And.intro (mem1 Ah0.1) ?_
  refine hK.1 144 [some (vR h0), none, none, none, none] [vI (I h0 0)] (sh, I, L) (0, 0) ?_
  exact And.intro (n144) (And.intro (fun h => hK.2 [false, false, false, false, false] _ _ _ _ _ (kt h)) (fun h => hK.2 [false, false, false, false, false] _ _ _ _ _ (kf h)))
set_option maxRecDepth 4000 in
theorem B_X6_read_147 {Q : oQ} {K : oK} (hK : oCl tb_X6_read Q K) {sh : oS} {I : Nat → Nat → Int} {L : Nat → Nat → Int64}  (k : K 152 [none, none, none, none, none] [vI 1] (sh, I, L) (0, 0)) : K 147 [none, none, none, none, none] [] (sh, I, L) (0, 0) := by
  refine hK.1 147 [none, none, none, none, none] [] (sh, I, L) (0, 0) ?_
  refine hK.1 148 [none, none, none, none, none] [vI 1] (sh, I, L) (0, 0) ?_
  exact k
set_option maxRecDepth 4000 in
theorem B_X6_read_151 {Q : oQ} {K : oK} (hK : oCl tb_X6_read Q K) {sh : oS} {I : Nat → Nat → Int} {L : Nat → Nat → Int64}  (k : K 152 [none, none, none, none, none] [vI 0] (sh, I, L) (0, 0)) : K 151 [none, none, none, none, none] [] (sh, I, L) (0, 0) := by
  refine hK.1 151 [none, none, none, none, none] [] (sh, I, L) (0, 0) ?_
  exact k
set_option maxRecDepth 4000 in
theorem B_X6_read_152 {Q : oQ} {K : oK} (hK : oCl tb_X6_read Q K) {sh : oS} {I : Nat → Nat → Int} {L : Nat → Nat → Int64} {s0 : Int} (o152 : s0 = 0 ∨ s0 = 1) (k : Q (some (vI s0)) (sh, I, L)) : K 152 [none, none, none, none, none] [vI s0] (sh, I, L) (0, 0) := by
  refine hK.1 152 [none, none, none, none, none] [vI s0] (sh, I, L) (0, 0) ?_
  exact And.intro ⟨o152, by decide, by decide⟩ k
set_option maxRecDepth 4000 in
theorem B_X4_allFlour_0 {Q : oQ} {K : oK} (hK : oCl tb_X4_allFlour Q K) {sh : oS} {I : Nat → Nat → Int} {L : Nat → Nat → Int64} {h0 : Nat} (k : K 4 [some (vR h0), some (vI 0), some (vI 0)] [] (sh, I, L) (0, 0)) : K 0 [some (vR h0), none, none] [] (sh, I, L) (0, 0) := by
  refine hK.1 0 [some (vR h0), none, none] [] (sh, I, L) (0, 0) ?_
  refine hK.1 1 [some (vR h0), none, none] [vI 0] (sh, I, L) (0, 0) ?_
  refine hK.1 2 [some (vR h0), some (vI 0), none] [] (sh, I, L) (0, 0) ?_
  refine hK.1 3 [some (vR h0), some (vI 0), none] [vI 0] (sh, I, L) (0, 0) ?_
  exact k
set_option maxRecDepth 4000 in
theorem B_X4_allFlour_4 {Q : oQ} {K : oK} (hK : oCl tb_X4_allFlour Q K) {sh : oS} {I : Nat → Nat → Int} {L : Nat → Nat → Int64} {h0 : Nat} {x1 : Int} {x2 : Int} {h0f h0w : Nat} (Ah0 : LandAt sh h0 h0f h0w) (n9a : inR x2) (n9b : inR (I h0 0)) (kt : I h0 0 ≤ x2 → K 27 [none, some (vI x1), none] [] (sh, I, L) (0, 0)) (kf : ¬ (I h0 0 ≤ x2) → K 12 [some (vR h0), some (vI x1), some (vI x2)] [] (sh, I, L) (0, 0)) : K 4 [some (vR h0), some (vI x1), some (vI x2)] [] (sh, I, L) (0, 0) := by
  refine hK.1 4 [some (vR h0), some (vI x1), some (vI x2)] [] (sh, I, L) (0, 0) ?_
  refine hK.1 5 [some (vR h0), some (vI x1), some (vI x2)] [vI x2] (sh, I, L) (0, 0) ?_
  refine hK.1 6 [some (vR h0), some (vI x1), some (vI x2)] [vR h0, vI x2] (sh, I, L) (0, 0) ?_
  refine And.intro (mem1 Ah0.1) ?_
  refine hK.1 9 [some (vR h0), some (vI x1), some (vI x2)] [vI (I h0 0), vI x2] (sh, I, L) (0, 0) ?_
  exact And.intro (And.intro n9a n9b) (And.intro (fun h => hK.2 [false, true, false] _ _ _ _ _ (kt h)) (fun h => hK.2 [true, true, true] _ _ _ _ _ (kf h)))
set_option maxRecDepth 4000 in
theorem B_X4_allFlour_12 {Q : oQ} {K : oK} (hK : oCl tb_X4_allFlour Q K) {sh : oS} {I : Nat → Nat → Int} {L : Nat → Nat → Int64} {h0 : Nat} {x1 : Int} {x2 : Int} {h0f h0w : Nat} (Ah0 : LandAt sh h0 h0f h0w) (b18 : 0 ≤ x2 ∧ x2 < 8) (k : K 4 [some (vR h0), some (vI (x1 + (I h0f (x2.toNat)))), some (vI (x2 + 1))] [] (sh, I, L) (0, 0)) : K 12 [some (vR h0), some (vI x1), some (vI x2)] [] (sh, I, L) (0, 0) := by
  refine hK.1 12 [some (vR h0), some (vI x1), some (vI x2)] [] (sh, I, L) (0, 0) ?_
  refine hK.1 13 [some (vR h0), some (vI x1), some (vI x2)] [vI x1] (sh, I, L) (0, 0) ?_
  refine hK.1 14 [some (vR h0), some (vI x1), some (vI x2)] [vR h0, vI x1] (sh, I, L) (0, 0) ?_
  refine And.intro (mem1 Ah0.1) (Exists.intro h0f (And.intro Ah0.2.1 ?_))
  refine hK.1 17 [some (vR h0), some (vI x1), some (vI x2)] [vR h0f, vI x1] (sh, I, L) (0, 0) ?_
  refine hK.1 18 [some (vR h0), some (vI x1), some (vI x2)] [vI x2, vR h0f, vI x1] (sh, I, L) (0, 0) ?_
  refine And.intro (And.intro (Ah0.2.2.2.1.1) (ixL (Ah0.2.2.2.1.2) b18)) ?_
  refine hK.1 19 [some (vR h0), some (vI x1), some (vI x2)] [vI (I h0f (x2.toNat)), vI x1] (sh, I, L) (0, 0) ?_
  refine hK.1 20 [some (vR h0), some (vI x1), some (vI x2)] [vI (x1 + (I h0f (x2.toNat)))] (sh, I, L) (0, 0) ?_
  refine hK.1 21 [some (vR h0), some (vI (x1 + (I h0f (x2.toNat)))), some (vI x2)] [] (sh, I, L) (0, 0) ?_
  refine hK.1 24 [some (vR h0), some (vI (x1 + (I h0f (x2.toNat)))), some (vI (x2 + 1))] [] (sh, I, L) (0, 0) ?_
  exact k
set_option maxRecDepth 4000 in
theorem B_X4_allFlour_27 {Q : oQ} {K : oK} (hK : oCl tb_X4_allFlour Q K) {sh : oS} {I : Nat → Nat → Int} {L : Nat → Nat → Int64} {x1 : Int} (k : Q (some (vI x1)) (sh, I, L)) : K 27 [none, some (vI x1), none] [] (sh, I, L) (0, 0) := by
  refine hK.1 27 [none, some (vI x1), none] [] (sh, I, L) (0, 0) ?_
  refine hK.1 28 [none, some (vI x1), none] [vI x1] (sh, I, L) (0, 0) ?_
  exact And.intro ⟨by decide, by decide⟩ k
set_option maxRecDepth 4000 in
theorem B_X8_init_0 {Q : oQ} {K : oK} (hK : oCl tb_X8_init Q K) {sh : oS} {I : Nat → Nat → Int} {L : Nat → Nat → Int64} {h0 : Nat} (kh0_0 : sK (sNew sh 13 60) h0 = 8) (k : K 12 [none] [] ((sPutR (sNew sh 13 60) h0 0 (some (sN sh))), (iNew sh I), (lNew sh L)) (1, 60)) : K 0 [some (vR h0)] [] (sh, I, L) (0, 0) := by
  refine hK.1 0 [some (vR h0)] [] (sh, I, L) (0, 0) ?_
  refine hK.1 1 [some (vR h0)] [vR h0] (sh, I, L) (0, 0) ?_
  refine And.intro (Nat.le_of_ble_eq_true rfl) ?_
  refine hK.1 4 [some (vR h0)] [] (sh, I, L) (0, 0) ?_
  refine hK.1 5 [some (vR h0)] [vR h0] (sh, I, L) (0, 0) ?_
  refine hK.1 7 [some (vR h0)] [vI 60, vR h0] (sh, I, L) (0, 0) ?_
  refine And.intro ⟨by decide, by decide, by decide, by decide⟩ ?_
  refine hK.1 9 [some (vR h0)] [vR (sN sh), vR h0] ((sNew sh 13 60), (iNew sh I), (lNew sh L)) (1, 60) ?_
  refine And.intro (mem1 kh0_0) ?_
  refine hK.2 [false] _ _ _ _ _ ?_
  exact k
set_option maxRecDepth 4000 in
theorem B_X8_init_12 {Q : oQ} {K : oK} (hK : oCl tb_X8_init Q K) {sh : oS} {I : Nat → Nat → Int} {L : Nat → Nat → Int64}  (k : Q none (sh, I, L)) : K 12 [none] [] (sh, I, L) (1, 60) := by
  refine hK.1 12 [none] [] (sh, I, L) (1, 60) ?_
  exact And.intro rfl (And.intro ⟨by decide, by decide⟩ k)
set_option maxRecDepth 4000 in
theorem B_X4_init_0 {Q : oQ} {K : oK} (hK : oCl tb_X4_init Q K) {sh : oS} {I : Nat → Nat → Int} {L : Nat → Nat → Int64} {h0 : Nat} (kh0_0 : sK (sNew sh 13 8) h0 = 4) (k : K 12 [some (vR h0)] [] ((sPutR (sNew sh 13 8) h0 1 (some (sN sh))), (iNew sh I), (lNew sh L)) (1, 8)) : K 0 [some (vR h0)] [] (sh, I, L) (0, 0) := by
  refine hK.1 0 [some (vR h0)] [] (sh, I, L) (0, 0) ?_
  refine hK.1 1 [some (vR h0)] [vR h0] (sh, I, L) (0, 0) ?_
  refine And.intro (Nat.le_of_ble_eq_true rfl) ?_
  refine hK.1 4 [some (vR h0)] [] (sh, I, L) (0, 0) ?_
  refine hK.1 5 [some (vR h0)] [vR h0] (sh, I, L) (0, 0) ?_
  refine hK.1 7 [some (vR h0)] [vI 8, vR h0] (sh, I, L) (0, 0) ?_
  refine And.intro ⟨by decide, by decide, by decide, by decide⟩ ?_
  refine hK.1 9 [some (vR h0)] [vR (sN sh), vR h0] ((sNew sh 13 8), (iNew sh I), (lNew sh L)) (1, 8) ?_
  refine And.intro (mem1 kh0_0) ?_
  exact k
set_option maxRecDepth 4000 in
theorem B_X4_init_12 {Q : oQ} {K : oK} (hK : oCl tb_X4_init Q K) {sh : oS} {I : Nat → Nat → Int} {L : Nat → Nat → Int64} {h0 : Nat} (kh0_0 : sK (sNew sh 13 8) h0 = 4) (k : K 20 [none] [] ((sPutR (sNew sh 13 8) h0 2 (some (sN sh))), (iNew sh I), (lNew sh L)) (2, 16)) : K 12 [some (vR h0)] [] (sh, I, L) (1, 8) := by
  refine hK.1 12 [some (vR h0)] [] (sh, I, L) (1, 8) ?_
  refine hK.1 13 [some (vR h0)] [vR h0] (sh, I, L) (1, 8) ?_
  refine hK.1 15 [some (vR h0)] [vI 8, vR h0] (sh, I, L) (1, 8) ?_
  refine And.intro ⟨by decide, by decide, by decide, by decide⟩ ?_
  refine hK.1 17 [some (vR h0)] [vR (sN sh), vR h0] ((sNew sh 13 8), (iNew sh I), (lNew sh L)) (2, 16) ?_
  refine And.intro (mem1 kh0_0) ?_
  refine hK.2 [false] _ _ _ _ _ ?_
  exact k
set_option maxRecDepth 4000 in
theorem B_X4_init_20 {Q : oQ} {K : oK} (hK : oCl tb_X4_init Q K) {sh : oS} {I : Nat → Nat → Int} {L : Nat → Nat → Int64}  (k : Q none (sh, I, L)) : K 20 [none] [] (sh, I, L) (2, 16) := by
  refine hK.1 20 [none] [] (sh, I, L) (2, 16) ?_
  exact And.intro rfl (And.intro ⟨by decide, by decide⟩ k)
set_option maxRecDepth 4000 in
theorem B_X6_init_0 {Q : oQ} {K : oK} (hK : oCl tb_X6_init Q K) {sh : oS} {I : Nat → Nat → Int} {L : Nat → Nat → Int64} {h0 : Nat} (kh0_0 : sK (sNew sh 13 10) h0 = 6) (k : K 12 [some (vR h0)] [] ((sPutR (sNew sh 13 10) h0 2 (some (sN sh))), (iNew sh I), (lNew sh L)) (1, 10)) : K 0 [some (vR h0)] [] (sh, I, L) (0, 0) := by
  refine hK.1 0 [some (vR h0)] [] (sh, I, L) (0, 0) ?_
  refine hK.1 1 [some (vR h0)] [vR h0] (sh, I, L) (0, 0) ?_
  refine And.intro (Nat.le_of_ble_eq_true rfl) ?_
  refine hK.1 4 [some (vR h0)] [] (sh, I, L) (0, 0) ?_
  refine hK.1 5 [some (vR h0)] [vR h0] (sh, I, L) (0, 0) ?_
  refine hK.1 7 [some (vR h0)] [vI 10, vR h0] (sh, I, L) (0, 0) ?_
  refine And.intro ⟨by decide, by decide, by decide, by decide⟩ ?_
  refine hK.1 9 [some (vR h0)] [vR (sN sh), vR h0] ((sNew sh 13 10), (iNew sh I), (lNew sh L)) (1, 10) ?_
  refine And.intro (mem1 kh0_0) ?_
  exact k
set_option maxRecDepth 4000 in
theorem B_X6_init_12 {Q : oQ} {K : oK} (hK : oCl tb_X6_init Q K) {sh : oS} {I : Nat → Nat → Int} {L : Nat → Nat → Int64} {h0 : Nat} (kh0_0 : sK (sNew sh 13 10) h0 = 6) (k : K 20 [some (vR h0)] [] ((sPutR (sNew sh 13 10) h0 3 (some (sN sh))), (iNew sh I), (lNew sh L)) (2, 20)) : K 12 [some (vR h0)] [] (sh, I, L) (1, 10) := by
  refine hK.1 12 [some (vR h0)] [] (sh, I, L) (1, 10) ?_
  refine hK.1 13 [some (vR h0)] [vR h0] (sh, I, L) (1, 10) ?_
  refine hK.1 15 [some (vR h0)] [vI 10, vR h0] (sh, I, L) (1, 10) ?_
  refine And.intro ⟨by decide, by decide, by decide, by decide⟩ ?_
  refine hK.1 17 [some (vR h0)] [vR (sN sh), vR h0] ((sNew sh 13 10), (iNew sh I), (lNew sh L)) (2, 20) ?_
  refine And.intro (mem1 kh0_0) ?_
  exact k
set_option maxRecDepth 4000 in
theorem B_X6_init_20 {Q : oQ} {K : oK} (hK : oCl tb_X6_init Q K) {sh : oS} {I : Nat → Nat → Int} {L : Nat → Nat → Int64} {h0 : Nat} (kh0_0 : sK (sNew sh 13 2) h0 = 6) (k : K 27 [none] [] ((sPutR (sNew sh 13 2) h0 4 (some (sN sh))), (iNew sh I), (lNew sh L)) (3, 22)) : K 20 [some (vR h0)] [] (sh, I, L) (2, 20) := by
  refine hK.1 20 [some (vR h0)] [] (sh, I, L) (2, 20) ?_
  refine hK.1 21 [some (vR h0)] [vR h0] (sh, I, L) (2, 20) ?_
  refine hK.1 22 [some (vR h0)] [vI 2, vR h0] (sh, I, L) (2, 20) ?_
  refine And.intro ⟨by decide, by decide, by decide, by decide⟩ ?_
  refine hK.1 24 [some (vR h0)] [vR (sN sh), vR h0] ((sNew sh 13 2), (iNew sh I), (lNew sh L)) (3, 22) ?_
  refine And.intro (mem1 kh0_0) ?_
  refine hK.2 [false] _ _ _ _ _ ?_
  exact k
set_option maxRecDepth 4000 in
theorem B_X6_init_27 {Q : oQ} {K : oK} (hK : oCl tb_X6_init Q K) {sh : oS} {I : Nat → Nat → Int} {L : Nat → Nat → Int64}  (k : Q none (sh, I, L)) : K 27 [none] [] (sh, I, L) (3, 22) := by
  refine hK.1 27 [none] [] (sh, I, L) (3, 22) ?_
  exact And.intro rfl (And.intro ⟨by decide, by decide⟩ k)
set_option maxRecDepth 4000 in
theorem B_X9_init_0 {Q : oQ} {K : oK} (hK : oCl tb_X9_init Q K) {sh : oS} {I : Nat → Nat → Int} {L : Nat → Nat → Int64} {h0 : Nat} (kh0_0 : sK (sNew sh 13 30) h0 = 9) (k : K 12 [some (vR h0)] [] ((sPutR (sNew sh 13 30) h0 0 (some (sN sh))), (iNew sh I), (lNew sh L)) (1, 30)) : K 0 [some (vR h0)] [] (sh, I, L) (0, 0) := by
  refine hK.1 0 [some (vR h0)] [] (sh, I, L) (0, 0) ?_
  refine hK.1 1 [some (vR h0)] [vR h0] (sh, I, L) (0, 0) ?_
  refine And.intro (Nat.le_of_ble_eq_true rfl) ?_
  refine hK.1 4 [some (vR h0)] [] (sh, I, L) (0, 0) ?_
  refine hK.1 5 [some (vR h0)] [vR h0] (sh, I, L) (0, 0) ?_
  refine hK.1 7 [some (vR h0)] [vI 30, vR h0] (sh, I, L) (0, 0) ?_
  refine And.intro ⟨by decide, by decide, by decide, by decide⟩ ?_
  refine hK.1 9 [some (vR h0)] [vR (sN sh), vR h0] ((sNew sh 13 30), (iNew sh I), (lNew sh L)) (1, 30) ?_
  refine And.intro (mem1 kh0_0) ?_
  exact k
set_option maxRecDepth 4000 in
theorem B_X9_init_12 {Q : oQ} {K : oK} (hK : oCl tb_X9_init Q K) {sh : oS} {I : Nat → Nat → Int} {L : Nat → Nat → Int64} {h0 : Nat} (kh0_0 : sK (sNew sh 13 30) h0 = 9) (k : K 20 [some (vR h0)] [] ((sPutR (sNew sh 13 30) h0 1 (some (sN sh))), (iNew sh I), (lNew sh L)) (2, 60)) : K 12 [some (vR h0)] [] (sh, I, L) (1, 30) := by
  refine hK.1 12 [some (vR h0)] [] (sh, I, L) (1, 30) ?_
  refine hK.1 13 [some (vR h0)] [vR h0] (sh, I, L) (1, 30) ?_
  refine hK.1 15 [some (vR h0)] [vI 30, vR h0] (sh, I, L) (1, 30) ?_
  refine And.intro ⟨by decide, by decide, by decide, by decide⟩ ?_
  refine hK.1 17 [some (vR h0)] [vR (sN sh), vR h0] ((sNew sh 13 30), (iNew sh I), (lNew sh L)) (2, 60) ?_
  refine And.intro (mem1 kh0_0) ?_
  exact k
set_option maxRecDepth 4000 in
theorem B_X9_init_20 {Q : oQ} {K : oK} (hK : oCl tb_X9_init Q K) {sh : oS} {I : Nat → Nat → Int} {L : Nat → Nat → Int64} {h0 : Nat} (kh0_0 : sK (sNew sh 13 30) h0 = 9) (k : K 28 [none] [] ((sPutR (sNew sh 13 30) h0 2 (some (sN sh))), (iNew sh I), (lNew sh L)) (3, 90)) : K 20 [some (vR h0)] [] (sh, I, L) (2, 60) := by
  refine hK.1 20 [some (vR h0)] [] (sh, I, L) (2, 60) ?_
  refine hK.1 21 [some (vR h0)] [vR h0] (sh, I, L) (2, 60) ?_
  refine hK.1 23 [some (vR h0)] [vI 30, vR h0] (sh, I, L) (2, 60) ?_
  refine And.intro ⟨by decide, by decide, by decide, by decide⟩ ?_
  refine hK.1 25 [some (vR h0)] [vR (sN sh), vR h0] ((sNew sh 13 30), (iNew sh I), (lNew sh L)) (3, 90) ?_
  refine And.intro (mem1 kh0_0) ?_
  refine hK.2 [false] _ _ _ _ _ ?_
  exact k
set_option maxRecDepth 4000 in
theorem B_X9_init_28 {Q : oQ} {K : oK} (hK : oCl tb_X9_init Q K) {sh : oS} {I : Nat → Nat → Int} {L : Nat → Nat → Int64}  (k : Q none (sh, I, L)) : K 28 [none] [] (sh, I, L) (3, 90) := by
  refine hK.1 28 [none] [] (sh, I, L) (3, 90) ?_
  exact And.intro rfl (And.intro ⟨by decide, by decide⟩ k)
set_option maxRecDepth 4000 in
theorem B_X7_init_0 {Q : oQ} {K : oK} (hK : oCl tb_X7_init Q K) {sh : oS} {I : Nat → Nat → Int} {L : Nat → Nat → Int64} {h0 : Nat} (kh0_0 : sK (sNew sh 13 2548) h0 = 7) (k : K 13 [some (vR h0)] [] ((sPutR (sNew sh 13 2548) h0 0 (some (sN sh))), (iNew sh I), (lNew sh L)) (1, 2548)) : K 0 [some (vR h0)] [] (sh, I, L) (0, 0) := by
  refine hK.1 0 [some (vR h0)] [] (sh, I, L) (0, 0) ?_
  refine hK.1 1 [some (vR h0)] [vR h0] (sh, I, L) (0, 0) ?_
  refine And.intro (Nat.le_of_ble_eq_true rfl) ?_
  refine hK.1 4 [some (vR h0)] [] (sh, I, L) (0, 0) ?_
  refine hK.1 5 [some (vR h0)] [vR h0] (sh, I, L) (0, 0) ?_
  refine hK.1 8 [some (vR h0)] [vI 2548, vR h0] (sh, I, L) (0, 0) ?_
  refine And.intro ⟨by decide, by decide, by decide, by decide⟩ ?_
  refine hK.1 10 [some (vR h0)] [vR (sN sh), vR h0] ((sNew sh 13 2548), (iNew sh I), (lNew sh L)) (1, 2548) ?_
  refine And.intro (mem1 kh0_0) ?_
  exact k
set_option maxRecDepth 4000 in
theorem B_X7_init_13 {Q : oQ} {K : oK} (hK : oCl tb_X7_init Q K) {sh : oS} {I : Nat → Nat → Int} {L : Nat → Nat → Int64} {h0 : Nat} (kh0_0 : sK (sNew sh 13 2548) h0 = 7) (k : K 22 [some (vR h0)] [] ((sPutR (sNew sh 13 2548) h0 1 (some (sN sh))), (iNew sh I), (lNew sh L)) (2, 5096)) : K 13 [some (vR h0)] [] (sh, I, L) (1, 2548) := by
  refine hK.1 13 [some (vR h0)] [] (sh, I, L) (1, 2548) ?_
  refine hK.1 14 [some (vR h0)] [vR h0] (sh, I, L) (1, 2548) ?_
  refine hK.1 17 [some (vR h0)] [vI 2548, vR h0] (sh, I, L) (1, 2548) ?_
  refine And.intro ⟨by decide, by decide, by decide, by decide⟩ ?_
  refine hK.1 19 [some (vR h0)] [vR (sN sh), vR h0] ((sNew sh 13 2548), (iNew sh I), (lNew sh L)) (2, 5096) ?_
  refine And.intro (mem1 kh0_0) ?_
  exact k
set_option maxRecDepth 4000 in
theorem B_X7_init_22 {Q : oQ} {K : oK} (hK : oCl tb_X7_init Q K) {sh : oS} {I : Nat → Nat → Int} {L : Nat → Nat → Int64} {h0 : Nat} (kh0_0 : sK (sNew sh 13 2548) h0 = 7) (k : K 31 [some (vR h0)] [] ((sPutR (sNew sh 13 2548) h0 2 (some (sN sh))), (iNew sh I), (lNew sh L)) (3, 7644)) : K 22 [some (vR h0)] [] (sh, I, L) (2, 5096) := by
  refine hK.1 22 [some (vR h0)] [] (sh, I, L) (2, 5096) ?_
  refine hK.1 23 [some (vR h0)] [vR h0] (sh, I, L) (2, 5096) ?_
  refine hK.1 26 [some (vR h0)] [vI 2548, vR h0] (sh, I, L) (2, 5096) ?_
  refine And.intro ⟨by decide, by decide, by decide, by decide⟩ ?_
  refine hK.1 28 [some (vR h0)] [vR (sN sh), vR h0] ((sNew sh 13 2548), (iNew sh I), (lNew sh L)) (3, 7644) ?_
  refine And.intro (mem1 kh0_0) ?_
  exact k
set_option maxRecDepth 4000 in
theorem B_X7_init_31 {Q : oQ} {K : oK} (hK : oCl tb_X7_init Q K) {sh : oS} {I : Nat → Nat → Int} {L : Nat → Nat → Int64} {h0 : Nat} (kh0_0 : sK (sNew sh 13 2548) h0 = 7) (k : K 40 [some (vR h0)] [] ((sPutR (sNew sh 13 2548) h0 3 (some (sN sh))), (iNew sh I), (lNew sh L)) (4, 10192)) : K 31 [some (vR h0)] [] (sh, I, L) (3, 7644) := by
  refine hK.1 31 [some (vR h0)] [] (sh, I, L) (3, 7644) ?_
  refine hK.1 32 [some (vR h0)] [vR h0] (sh, I, L) (3, 7644) ?_
  refine hK.1 35 [some (vR h0)] [vI 2548, vR h0] (sh, I, L) (3, 7644) ?_
  refine And.intro ⟨by decide, by decide, by decide, by decide⟩ ?_
  refine hK.1 37 [some (vR h0)] [vR (sN sh), vR h0] ((sNew sh 13 2548), (iNew sh I), (lNew sh L)) (4, 10192) ?_
  refine And.intro (mem1 kh0_0) ?_
  exact k
set_option maxRecDepth 4000 in
theorem B_X7_init_40 {Q : oQ} {K : oK} (hK : oCl tb_X7_init Q K) {sh : oS} {I : Nat → Nat → Int} {L : Nat → Nat → Int64} {h0 : Nat} (kh0_0 : sK (sNew sh 13 324) h0 = 7) (k : K 49 [some (vR h0)] [] ((sPutR (sNew sh 13 324) h0 4 (some (sN sh))), (iNew sh I), (lNew sh L)) (5, 10516)) : K 40 [some (vR h0)] [] (sh, I, L) (4, 10192) := by
  refine hK.1 40 [some (vR h0)] [] (sh, I, L) (4, 10192) ?_
  refine hK.1 41 [some (vR h0)] [vR h0] (sh, I, L) (4, 10192) ?_
  refine hK.1 44 [some (vR h0)] [vI 324, vR h0] (sh, I, L) (4, 10192) ?_
  refine And.intro ⟨by decide, by decide, by decide, by decide⟩ ?_
  refine hK.1 46 [some (vR h0)] [vR (sN sh), vR h0] ((sNew sh 13 324), (iNew sh I), (lNew sh L)) (5, 10516) ?_
  refine And.intro (mem1 kh0_0) ?_
  exact k
set_option maxRecDepth 4000 in
theorem B_X7_init_49 {Q : oQ} {K : oK} (hK : oCl tb_X7_init Q K) {sh : oS} {I : Nat → Nat → Int} {L : Nat → Nat → Int64} {h0 : Nat} (kh0_0 : sK (sNew sh 13 324) h0 = 7) (k : K 58 [some (vR h0)] [] ((sPutR (sNew sh 13 324) h0 5 (some (sN sh))), (iNew sh I), (lNew sh L)) (6, 10840)) : K 49 [some (vR h0)] [] (sh, I, L) (5, 10516) := by
  refine hK.1 49 [some (vR h0)] [] (sh, I, L) (5, 10516) ?_
  refine hK.1 50 [some (vR h0)] [vR h0] (sh, I, L) (5, 10516) ?_
  refine hK.1 53 [some (vR h0)] [vI 324, vR h0] (sh, I, L) (5, 10516) ?_
  refine And.intro ⟨by decide, by decide, by decide, by decide⟩ ?_
  refine hK.1 55 [some (vR h0)] [vR (sN sh), vR h0] ((sNew sh 13 324), (iNew sh I), (lNew sh L)) (6, 10840) ?_
  refine And.intro (mem1 kh0_0) ?_
  exact k
set_option maxRecDepth 4000 in
theorem B_X7_init_58 {Q : oQ} {K : oK} (hK : oCl tb_X7_init Q K) {sh : oS} {I : Nat → Nat → Int} {L : Nat → Nat → Int64} {h0 : Nat} (kh0_0 : sK (sNew sh 13 324) h0 = 7) (k : K 67 [some (vR h0)] [] ((sPutR (sNew sh 13 324) h0 6 (some (sN sh))), (iNew sh I), (lNew sh L)) (7, 11164)) : K 58 [some (vR h0)] [] (sh, I, L) (6, 10840) := by
  refine hK.1 58 [some (vR h0)] [] (sh, I, L) (6, 10840) ?_
  refine hK.1 59 [some (vR h0)] [vR h0] (sh, I, L) (6, 10840) ?_
  refine hK.1 62 [some (vR h0)] [vI 324, vR h0] (sh, I, L) (6, 10840) ?_
  refine And.intro ⟨by decide, by decide, by decide, by decide⟩ ?_
  refine hK.1 64 [some (vR h0)] [vR (sN sh), vR h0] ((sNew sh 13 324), (iNew sh I), (lNew sh L)) (7, 11164) ?_
  refine And.intro (mem1 kh0_0) ?_
  exact k
set_option maxRecDepth 4000 in
theorem B_X7_init_67 {Q : oQ} {K : oK} (hK : oCl tb_X7_init Q K) {sh : oS} {I : Nat → Nat → Int} {L : Nat → Nat → Int64} {h0 : Nat} (kh0_0 : sK (sNew sh 13 324) h0 = 7) (k : K 76 [some (vR h0)] [] ((sPutR (sNew sh 13 324) h0 7 (some (sN sh))), (iNew sh I), (lNew sh L)) (8, 11488)) : K 67 [some (vR h0)] [] (sh, I, L) (7, 11164) := by
  refine hK.1 67 [some (vR h0)] [] (sh, I, L) (7, 11164) ?_
  refine hK.1 68 [some (vR h0)] [vR h0] (sh, I, L) (7, 11164) ?_
  refine hK.1 71 [some (vR h0)] [vI 324, vR h0] (sh, I, L) (7, 11164) ?_
  refine And.intro ⟨by decide, by decide, by decide, by decide⟩ ?_
  refine hK.1 73 [some (vR h0)] [vR (sN sh), vR h0] ((sNew sh 13 324), (iNew sh I), (lNew sh L)) (8, 11488) ?_
  refine And.intro (mem1 kh0_0) ?_
  exact k
set_option maxRecDepth 4000 in
theorem B_X7_init_76 {Q : oQ} {K : oK} (hK : oCl tb_X7_init Q K) {sh : oS} {I : Nat → Nat → Int} {L : Nat → Nat → Int64} {h0 : Nat} (kh0_0 : sK (sNew sh 15 324) h0 = 7) (k : K 85 [none] [] ((sPutR (sNew sh 15 324) h0 8 (some (sN sh))), (iNew sh I), (lNew sh L)) (9, 11812)) : K 76 [some (vR h0)] [] (sh, I, L) (8, 11488) := by
  refine hK.1 76 [some (vR h0)] [] (sh, I, L) (8, 11488) ?_
  refine hK.1 77 [some (vR h0)] [vR h0] (sh, I, L) (8, 11488) ?_
  refine hK.1 80 [some (vR h0)] [vI 324, vR h0] (sh, I, L) (8, 11488) ?_
  refine And.intro ⟨by decide, by decide, by decide, by decide⟩ ?_
  refine hK.1 82 [some (vR h0)] [vR (sN sh), vR h0] ((sNew sh 15 324), (iNew sh I), (lNew sh L)) (9, 11812) ?_
  refine And.intro (mem1 kh0_0) ?_
  refine hK.2 [false] _ _ _ _ _ ?_
  exact k
set_option maxRecDepth 4000 in
theorem B_X7_init_85 {Q : oQ} {K : oK} (hK : oCl tb_X7_init Q K) {sh : oS} {I : Nat → Nat → Int} {L : Nat → Nat → Int64}  (k : Q none (sh, I, L)) : K 85 [none] [] (sh, I, L) (9, 11812) := by
  refine hK.1 85 [none] [] (sh, I, L) (9, 11812) ?_
  exact And.intro rfl (And.intro ⟨by decide, by decide⟩ k)
set_option maxRecDepth 4000 in
theorem B_X2_init_0 {Q : oQ} {K : oK} (hK : oCl tb_X2_init Q K) {sh : oS} {I : Nat → Nat → Int} {L : Nat → Nat → Int64} {h0 : Nat} (k : T_X9_init [vR (sN sh)] ((sNew sh 9 0), (iNew sh I), (lNew sh L)) (fun r mm => K 12 [some (vR h0)] (r.toList ++ [vR (sN sh), vR h0]) mm (4, 94))) : K 0 [some (vR h0)] [] (sh, I, L) (0, 0) := by
  refine hK.1 0 [some (vR h0)] [] (sh, I, L) (0, 0) ?_
  refine hK.1 1 [some (vR h0)] [vR h0] (sh, I, L) (0, 0) ?_
  refine And.intro (Nat.le_of_ble_eq_true rfl) ?_
  refine hK.1 4 [some (vR h0)] [] (sh, I, L) (0, 0) ?_
  refine hK.1 5 [some (vR h0)] [vR h0] (sh, I, L) (0, 0) ?_
  refine And.intro ⟨by decide, by decide⟩ ?_
  refine hK.1 8 [some (vR h0)] [vR (sN sh), vR h0] ((sNew sh 9 0), (iNew sh I), (lNew sh L)) (1, 4) ?_
  refine hK.1 9 [some (vR h0)] [vR (sN sh), vR (sN sh), vR h0] ((sNew sh 9 0), (iNew sh I), (lNew sh L)) (1, 4) ?_
  exact And.intro ⟨Nat.le_of_ble_eq_true rfl, Nat.le_of_ble_eq_true rfl, Nat.le_of_ble_eq_true rfl, Nat.le_of_ble_eq_true rfl⟩ k
set_option maxRecDepth 4000 in
theorem B_X2_init_12 {Q : oQ} {K : oK} (hK : oCl tb_X2_init Q K) {sh : oS} {I : Nat → Nat → Int} {L : Nat → Nat → Int64} {h0 : Nat} {s0 : Nat} {s1 : Nat} (ks0_0 : sK sh s0 = 2) (k : K 15 [some (vR h0)] [] ((sPutR sh s0 0 (some s1)), I, L) (4, 94)) : K 12 [some (vR h0)] [vR s1, vR s0] (sh, I, L) (4, 94) := by
  refine hK.1 12 [some (vR h0)] [vR s1, vR s0] (sh, I, L) (4, 94) ?_
  refine And.intro (mem1 ks0_0) ?_
  exact k
set_option maxRecDepth 4000 in
theorem B_X2_init_15 {Q : oQ} {K : oK} (hK : oCl tb_X2_init Q K) {sh : oS} {I : Nat → Nat → Int} {L : Nat → Nat → Int64} {h0 : Nat} (kh0_0 : sK (sNew sh 13 10) h0 = 2) (k : K 23 [some (vR h0)] [] ((sPutR (sNew sh 13 10) h0 1 (some (sN sh))), (iNew sh I), (lNew sh L)) (5, 104)) : K 15 [some (vR h0)] [] (sh, I, L) (4, 94) := by
  refine hK.1 15 [some (vR h0)] [] (sh, I, L) (4, 94) ?_
  refine hK.1 16 [some (vR h0)] [vR h0] (sh, I, L) (4, 94) ?_
  refine hK.1 18 [some (vR h0)] [vI 10, vR h0] (sh, I, L) (4, 94) ?_
  refine And.intro ⟨by decide, by decide, by decide, by decide⟩ ?_
  refine hK.1 20 [some (vR h0)] [vR (sN sh), vR h0] ((sNew sh 13 10), (iNew sh I), (lNew sh L)) (5, 104) ?_
  refine And.intro (mem1 kh0_0) ?_
  exact k
set_option maxRecDepth 4000 in
theorem B_X2_init_23 {Q : oQ} {K : oK} (hK : oCl tb_X2_init Q K) {sh : oS} {I : Nat → Nat → Int} {L : Nat → Nat → Int64} {h0 : Nat} (kh0_0 : sK (sNew sh 13 152) h0 = 2) (k : K 32 [some (vR h0)] [] ((sPutR (sNew sh 13 152) h0 2 (some (sN sh))), (iNew sh I), (lNew sh L)) (6, 256)) : K 23 [some (vR h0)] [] (sh, I, L) (5, 104) := by
  refine hK.1 23 [some (vR h0)] [] (sh, I, L) (5, 104) ?_
  refine hK.1 24 [some (vR h0)] [vR h0] (sh, I, L) (5, 104) ?_
  refine hK.1 27 [some (vR h0)] [vI 152, vR h0] (sh, I, L) (5, 104) ?_
  refine And.intro ⟨by decide, by decide, by decide, by decide⟩ ?_
  refine hK.1 29 [some (vR h0)] [vR (sN sh), vR h0] ((sNew sh 13 152), (iNew sh I), (lNew sh L)) (6, 256) ?_
  refine And.intro (mem1 kh0_0) ?_
  exact k
set_option maxRecDepth 4000 in
theorem B_X2_init_32 {Q : oQ} {K : oK} (hK : oCl tb_X2_init Q K) {sh : oS} {I : Nat → Nat → Int} {L : Nat → Nat → Int64} {h0 : Nat} (k : T_X7_init [vR (sN sh)] ((sNew sh 7 0), (iNew sh I), (lNew sh L)) (fun r mm => K 40 [none] (r.toList ++ [vR (sN sh), vR h0]) mm (16, 12082))) : K 32 [some (vR h0)] [] (sh, I, L) (6, 256) := by
  refine hK.1 32 [some (vR h0)] [] (sh, I, L) (6, 256) ?_
  refine hK.1 33 [some (vR h0)] [vR h0] (sh, I, L) (6, 256) ?_
  refine And.intro ⟨by decide, by decide⟩ ?_
  refine hK.1 36 [some (vR h0)] [vR (sN sh), vR h0] ((sNew sh 7 0), (iNew sh I), (lNew sh L)) (7, 270) ?_
  refine hK.2 [false] _ _ _ _ _ ?_
  refine hK.1 37 [none] [vR (sN sh), vR (sN sh), vR h0] ((sNew sh 7 0), (iNew sh I), (lNew sh L)) (7, 270) ?_
  exact And.intro ⟨Nat.le_of_ble_eq_true rfl, Nat.le_of_ble_eq_true rfl, Nat.le_of_ble_eq_true rfl, Nat.le_of_ble_eq_true rfl⟩ k
set_option maxRecDepth 4000 in
theorem B_X2_init_40 {Q : oQ} {K : oK} (hK : oCl tb_X2_init Q K) {sh : oS} {I : Nat → Nat → Int} {L : Nat → Nat → Int64} {s0 : Nat} {s1 : Nat} (ks0_0 : sK sh s0 = 2) (k : K 43 [none] [] ((sPutR sh s0 3 (some s1)), I, L) (16, 12082)) : K 40 [none] [vR s1, vR s0] (sh, I, L) (16, 12082) := by
  refine hK.1 40 [none] [vR s1, vR s0] (sh, I, L) (16, 12082) ?_
  refine And.intro (mem1 ks0_0) ?_
  exact k
set_option maxRecDepth 4000 in
theorem B_X2_init_43 {Q : oQ} {K : oK} (hK : oCl tb_X2_init Q K) {sh : oS} {I : Nat → Nat → Int} {L : Nat → Nat → Int64}  (k : Q none (sh, I, L)) : K 43 [none] [] (sh, I, L) (16, 12082) := by
  refine hK.1 43 [none] [] (sh, I, L) (16, 12082) ?_
  exact And.intro rfl (And.intro ⟨by decide, by decide⟩ k)
set_option maxRecDepth 4000 in
theorem B_X8_put_0 {Q : oQ} {K : oK} (hK : oCl tb_X8_put Q K) {sh : oS} (hs : Sh sh) {I : Nat → Nat → Int} {L : Nat → Nat → Int64} {x1 : Int} (n6a : inR (I 1 1)) (kt : 60 ≤ I 1 1 → K 29 [none, none] [] (sh, I, L) (0, 0)) (kf : ¬ (60 ≤ I 1 1) → K 9 [some (vR 1), some (vI x1)] [] (sh, I, L) (0, 0)) : K 0 [some (vR 1), some (vI x1)] [] (sh, I, L) (0, 0) := by
  refine hK.1 0 [some (vR 1), some (vI x1)] [] (sh, I, L) (0, 0) ?_
  refine hK.1 1 [some (vR 1), some (vI x1)] [vR 1] (sh, I, L) (0, 0) ?_
  refine And.intro (mem1 (sk_1 hs)) ?_
  refine hK.1 4 [some (vR 1), some (vI x1)] [vI (I 1 1)] (sh, I, L) (0, 0) ?_
  refine hK.1 6 [some (vR 1), some (vI x1)] [vI 60, vI (I 1 1)] (sh, I, L) (0, 0) ?_
  exact And.intro (And.intro n6a ⟨by decide, by decide⟩) (And.intro (fun h => hK.2 [false, false] _ _ _ _ _ (kt h)) (fun h => hK.2 [true, true] _ _ _ _ _ (kf h)))
set_option maxRecDepth 4000 in
theorem B_X8_put_9 {Q : oQ} {K : oK} (hK : oCl tb_X8_put Q K) {sh : oS} (hs : Sh sh) {I : Nat → Nat → Int} {L : Nat → Nat → Int64} {x1 : Int} (b18 : 0 ≤ I 1 1 ∧ I 1 1 < 60) (k : K 29 [none, none] [] (sh, (u2 (u2 I 2 ((I 1 1).toNat) x1) 1 1 ((I 1 1) + 1)), L) (0, 0)) : K 9 [some (vR 1), some (vI x1)] [] (sh, I, L) (0, 0) := by
  refine hK.1 9 [some (vR 1), some (vI x1)] [] (sh, I, L) (0, 0) ?_
  refine hK.1 10 [some (vR 1), some (vI x1)] [vR 1] (sh, I, L) (0, 0) ?_
  refine And.intro (mem1 (sk_1 hs)) (Exists.intro 2 (And.intro (sr_1_0 hs) ?_))
  refine hK.1 13 [some (vR 1), some (vI x1)] [vR 2] (sh, I, L) (0, 0) ?_
  refine hK.1 14 [some (vR 1), some (vI x1)] [vR 1, vR 2] (sh, I, L) (0, 0) ?_
  refine And.intro (mem1 (sk_1 hs)) ?_
  refine hK.1 17 [some (vR 1), some (vI x1)] [vI (I 1 1), vR 2] (sh, I, L) (0, 0) ?_
  refine hK.1 18 [some (vR 1), some (vI x1)] [vI x1, vI (I 1 1), vR 2] (sh, I, L) (0, 0) ?_
  refine And.intro (And.intro (sk_2 hs) (ixL (sl_2 hs) b18)) ?_
  refine hK.1 19 [some (vR 1), some (vI x1)] [] (sh, (u2 I 2 ((I 1 1).toNat) x1), L) (0, 0) ?_
  refine hK.1 20 [some (vR 1), some (vI x1)] [vR 1] (sh, (u2 I 2 ((I 1 1).toNat) x1), L) (0, 0) ?_
  refine hK.1 21 [some (vR 1), some (vI x1)] [vR 1, vR 1] (sh, (u2 I 2 ((I 1 1).toNat) x1), L) (0, 0) ?_
  refine And.intro (mem1 (sk_1 hs)) ?_
  refine hK.1 24 [some (vR 1), some (vI x1)] [vI (I 1 1), vR 1] (sh, (u2 I 2 ((I 1 1).toNat) x1), L) (0, 0) ?_
  refine hK.1 25 [some (vR 1), some (vI x1)] [vI 1, vI (I 1 1), vR 1] (sh, (u2 I 2 ((I 1 1).toNat) x1), L) (0, 0) ?_
  refine hK.1 26 [some (vR 1), some (vI x1)] [vI ((I 1 1) + 1), vR 1] (sh, (u2 I 2 ((I 1 1).toNat) x1), L) (0, 0) ?_
  refine And.intro (mem1 (sk_1 hs)) ?_
  refine hK.2 [false, false] _ _ _ _ _ ?_
  exact k
set_option maxRecDepth 4000 in
theorem B_X8_put_29 {Q : oQ} {K : oK} (hK : oCl tb_X8_put Q K) {sh : oS} {I : Nat → Nat → Int} {L : Nat → Nat → Int64}  (k : Q none (sh, I, L)) : K 29 [none, none] [] (sh, I, L) (0, 0) := by
  refine hK.1 29 [none, none] [] (sh, I, L) (0, 0) ?_
  exact And.intro rfl (And.intro ⟨by decide, by decide⟩ k)
set_option maxRecDepth 4000 in
theorem B_X3_init_0 {Q : oQ} {K : oK} (hK : oCl tb_X3_init Q K) {sh : oS} {I : Nat → Nat → Int} {L : Nat → Nat → Int64} {h0 : Nat} {x1 : Int} {x2 : Int} (k : T_X0_init [vR h0, vI x1, vI x2] (sh, I, L) (fun r mm => K 6 [none, none, none] (r.toList ++ []) mm (0, 0))) : K 0 [some (vR h0), some (vI x1), some (vI x2)] [] (sh, I, L) (0, 0) := by
  refine hK.1 0 [some (vR h0), some (vI x1), some (vI x2)] [] (sh, I, L) (0, 0) ?_
  refine hK.1 1 [some (vR h0), some (vI x1), some (vI x2)] [vR h0] (sh, I, L) (0, 0) ?_
  refine hK.1 2 [some (vR h0), some (vI x1), some (vI x2)] [vI x1, vR h0] (sh, I, L) (0, 0) ?_
  refine hK.2 [false, false, false] _ _ _ _ _ ?_
  refine hK.1 3 [none, none, none] [vI x2, vI x1, vR h0] (sh, I, L) (0, 0) ?_
  exact And.intro ⟨Nat.le_of_ble_eq_true rfl, Nat.le_of_ble_eq_true rfl, Nat.le_of_ble_eq_true rfl, Nat.le_of_ble_eq_true rfl⟩ k
set_option maxRecDepth 4000 in
theorem B_X3_init_6 {Q : oQ} {K : oK} (hK : oCl tb_X3_init Q K) {sh : oS} {I : Nat → Nat → Int} {L : Nat → Nat → Int64}  (k : Q none (sh, I, L)) : K 6 [none, none, none] [] (sh, I, L) (0, 0) := by
  refine hK.1 6 [none, none, none] [] (sh, I, L) (0, 0) ?_
  exact And.intro rfl (And.intro ⟨by decide, by decide⟩ k)
set_option maxRecDepth 4000 in
theorem B_X5_init_0 {Q : oQ} {K : oK} (hK : oCl tb_X5_init Q K) {sh : oS} {I : Nat → Nat → Int} {L : Nat → Nat → Int64} {h0 : Nat} {x1 : Int} {x2 : Int} (k : T_X3_init [vR h0, vI x1, vI x2] (sh, I, L) (fun r mm => K 6 [none, none, none] (r.toList ++ []) mm (0, 0))) : K 0 [some (vR h0), some (vI x1), some (vI x2)] [] (sh, I, L) (0, 0) := by
  refine hK.1 0 [some (vR h0), some (vI x1), some (vI x2)] [] (sh, I, L) (0, 0) ?_
  refine hK.1 1 [some (vR h0), some (vI x1), some (vI x2)] [vR h0] (sh, I, L) (0, 0) ?_
  refine hK.1 2 [some (vR h0), some (vI x1), some (vI x2)] [vI x1, vR h0] (sh, I, L) (0, 0) ?_
  refine hK.2 [false, false, false] _ _ _ _ _ ?_
  refine hK.1 3 [none, none, none] [vI x2, vI x1, vR h0] (sh, I, L) (0, 0) ?_
  exact And.intro ⟨Nat.le_of_ble_eq_true rfl, Nat.le_of_ble_eq_true rfl, Nat.le_of_ble_eq_true rfl, Nat.le_of_ble_eq_true rfl⟩ k
set_option maxRecDepth 4000 in
theorem B_X5_init_6 {Q : oQ} {K : oK} (hK : oCl tb_X5_init Q K) {sh : oS} {I : Nat → Nat → Int} {L : Nat → Nat → Int64}  (k : Q none (sh, I, L)) : K 6 [none, none, none] [] (sh, I, L) (0, 0) := by
  refine hK.1 6 [none, none, none] [] (sh, I, L) (0, 0) ?_
  exact And.intro rfl (And.intro ⟨by decide, by decide⟩ k)
set_option maxRecDepth 4000 in
theorem B_X1_init_0 {Q : oQ} {K : oK} (hK : oCl tb_X1_init Q K) {sh : oS} {I : Nat → Nat → Int} {L : Nat → Nat → Int64} {h0 : Nat} {x1 : Int} (k : T_X0_init [vR h0, vI x1, vI 0] (sh, I, L) (fun r mm => K 6 [none, none] (r.toList ++ []) mm (0, 0))) : K 0 [some (vR h0), some (vI x1)] [] (sh, I, L) (0, 0) := by
  refine hK.1 0 [some (vR h0), some (vI x1)] [] (sh, I, L) (0, 0) ?_
  refine hK.1 1 [some (vR h0), some (vI x1)] [vR h0] (sh, I, L) (0, 0) ?_
  refine hK.1 2 [some (vR h0), some (vI x1)] [vI x1, vR h0] (sh, I, L) (0, 0) ?_
  refine hK.2 [false, false] _ _ _ _ _ ?_
  refine hK.1 3 [none, none] [vI 0, vI x1, vR h0] (sh, I, L) (0, 0) ?_
  exact And.intro ⟨Nat.le_of_ble_eq_true rfl, Nat.le_of_ble_eq_true rfl, Nat.le_of_ble_eq_true rfl, Nat.le_of_ble_eq_true rfl⟩ k
set_option maxRecDepth 4000 in
theorem B_X1_init_6 {Q : oQ} {K : oK} (hK : oCl tb_X1_init Q K) {sh : oS} {I : Nat → Nat → Int} {L : Nat → Nat → Int64}  (k : Q none (sh, I, L)) : K 6 [none, none] [] (sh, I, L) (0, 0) := by
  refine hK.1 6 [none, none] [] (sh, I, L) (0, 0) ?_
  exact And.intro rfl (And.intro ⟨by decide, by decide⟩ k)
set_option maxRecDepth 4000 in
theorem B_X6_chancesOf_0 {Q : oQ} {K : oK} (hK : oCl tb_X6_chancesOf Q K) {sh : oS} {I : Nat → Nat → Int} {L : Nat → Nat → Int64} {h0 : Nat} {x1 : Int} (k : K 4 [some (vR h0), some (vI x1), some (vI 1), some (vI 0)] [] (sh, I, L) (0, 0)) : K 0 [some (vR h0), some (vI x1), none, none] [] (sh, I, L) (0, 0) := by
  refine hK.1 0 [some (vR h0), some (vI x1), none, none] [] (sh, I, L) (0, 0) ?_
  refine hK.1 1 [some (vR h0), some (vI x1), none, none] [vI 1] (sh, I, L) (0, 0) ?_
  refine hK.1 2 [some (vR h0), some (vI x1), some (vI 1), none] [] (sh, I, L) (0, 0) ?_
  refine hK.1 3 [some (vR h0), some (vI x1), some (vI 1), none] [vI 0] (sh, I, L) (0, 0) ?_
  exact k
set_option maxRecDepth 4000 in
theorem B_X6_chancesOf_4 {Q : oQ} {K : oK} (hK : oCl tb_X6_chancesOf Q K) {sh : oS} {I : Nat → Nat → Int} {L : Nat → Nat → Int64} {h0 : Nat} {x1 : Int} {x2 : Int} {x3 : Int} {h0e h0p h0t : Nat} (Ah0 : MarchAt sh h0 h0e h0p h0t) (n9a : inR x3) (n9b : inR (I h0 1)) (kt : I h0 1 ≤ x3 → K 48 [none, none, some (vI x2), none] [] (sh, I, L) (0, 0)) (kf : ¬ (I h0 1 ≤ x3) → K 12 [some (vR h0), some (vI x1), some (vI x2), some (vI x3)] [] (sh, I, L) (0, 0)) : K 4 [some (vR h0), some (vI x1), some (vI x2), some (vI x3)] [] (sh, I, L) (0, 0) := by
  refine hK.1 4 [some (vR h0), some (vI x1), some (vI x2), some (vI x3)] [] (sh, I, L) (0, 0) ?_
  refine hK.1 5 [some (vR h0), some (vI x1), some (vI x2), some (vI x3)] [vI x3] (sh, I, L) (0, 0) ?_
  refine hK.1 6 [some (vR h0), some (vI x1), some (vI x2), some (vI x3)] [vR h0, vI x3] (sh, I, L) (0, 0) ?_
  refine And.intro (mem1 Ah0.1) ?_
  refine hK.1 9 [some (vR h0), some (vI x1), some (vI x2), some (vI x3)] [vI (I h0 1), vI x3] (sh, I, L) (0, 0) ?_
  exact And.intro (And.intro n9a n9b) (And.intro (fun h => hK.2 [false, false, true, false] _ _ _ _ _ (kt h)) (fun h => hK.2 [true, true, true, true] _ _ _ _ _ (kf h)))
set_option maxRecDepth 4000 in
theorem B_X6_chancesOf_12 {Q : oQ} {K : oK} (hK : oCl tb_X6_chancesOf Q K) {sh : oS} {I : Nat → Nat → Int} {L : Nat → Nat → Int64} {h0 : Nat} {x1 : Int} {x2 : Int} {x3 : Int} (n19a : inR (fAnd (fShr x1 x3) 1)) (kt : ¬ fAnd (fShr x1 x3) 1 = 1 → K 31 [some (vR h0), some (vI x1), none, some (vI x3)] [vI x2] (sh, I, L) (0, 0)) (kf : ¬ (¬ fAnd (fShr x1 x3) 1 = 1) → K 22 [some (vR h0), some (vI x1), none, some (vI x3)] [vI x2] (sh, I, L) (0, 0)) : K 12 [some (vR h0), some (vI x1), some (vI x2), some (vI x3)] [] (sh, I, L) (0, 0) := by
  refine hK.1 12 [some (vR h0), some (vI x1), some (vI x2), some (vI x3)] [] (sh, I, L) (0, 0) ?_
  refine hK.1 13 [some (vR h0), some (vI x1), some (vI x2), some (vI x3)] [vI x2] (sh, I, L) (0, 0) ?_
  refine hK.1 14 [some (vR h0), some (vI x1), some (vI x2), some (vI x3)] [vI x1, vI x2] (sh, I, L) (0, 0) ?_
  refine hK.1 15 [some (vR h0), some (vI x1), some (vI x2), some (vI x3)] [vI x3, vI x1, vI x2] (sh, I, L) (0, 0) ?_
  refine hK.1 16 [some (vR h0), some (vI x1), some (vI x2), some (vI x3)] [vI (fShr x1 x3), vI x2] (sh, I, L) (0, 0) ?_
  refine hK.1 17 [some (vR h0), some (vI x1), some (vI x2), some (vI x3)] [vI 1, vI (fShr x1 x3), vI x2] (sh, I, L) (0, 0) ?_
  refine hK.1 18 [some (vR h0), some (vI x1), some (vI x2), some (vI x3)] [vI (fAnd (fShr x1 x3) 1), vI x2] (sh, I, L) (0, 0) ?_
  refine hK.1 19 [some (vR h0), some (vI x1), some (vI x2), some (vI x3)] [vI 1, vI (fAnd (fShr x1 x3) 1), vI x2] (sh, I, L) (0, 0) ?_
  exact And.intro (And.intro n19a ⟨by decide, by decide⟩) (And.intro (fun h => hK.2 [true, true, false, true] _ _ _ _ _ (kt h)) (fun h => hK.2 [true, true, false, true] _ _ _ _ _ (kf h)))
set_option maxRecDepth 4000 in
theorem B_X6_chancesOf_22 {Q : oQ} {K : oK} (hK : oCl tb_X6_chancesOf Q K) {sh : oS} {I : Nat → Nat → Int} {L : Nat → Nat → Int64} {h0 : Nat} {x1 : Int} {x3 : Int} {s0 : Int} {h0e h0p h0t : Nat} (Ah0 : MarchAt sh h0 h0e h0p h0t) (b27 : 0 ≤ x3 ∧ x3 < 2) (k : K 40 [some (vR h0), some (vI x1), none, some (vI x3)] [vI (I h0t (x3.toNat)), vI s0] (sh, I, L) (0, 0)) : K 22 [some (vR h0), some (vI x1), none, some (vI x3)] [vI s0] (sh, I, L) (0, 0) := by
  refine hK.1 22 [some (vR h0), some (vI x1), none, some (vI x3)] [vI s0] (sh, I, L) (0, 0) ?_
  refine hK.1 23 [some (vR h0), some (vI x1), none, some (vI x3)] [vR h0, vI s0] (sh, I, L) (0, 0) ?_
  refine And.intro (mem1 Ah0.1) (Exists.intro h0t (And.intro Ah0.2.2.2.1 ?_))
  refine hK.1 26 [some (vR h0), some (vI x1), none, some (vI x3)] [vR h0t, vI s0] (sh, I, L) (0, 0) ?_
  refine hK.1 27 [some (vR h0), some (vI x1), none, some (vI x3)] [vI x3, vR h0t, vI s0] (sh, I, L) (0, 0) ?_
  refine And.intro (And.intro (Ah0.2.2.2.2.2.2.1) (ixL (Ah0.2.2.2.2.2.2.2) b27)) ?_
  refine hK.1 28 [some (vR h0), some (vI x1), none, some (vI x3)] [vI (I h0t (x3.toNat)), vI s0] (sh, I, L) (0, 0) ?_
  exact k
set_option maxRecDepth 4000 in
theorem B_X6_chancesOf_31 {Q : oQ} {K : oK} (hK : oCl tb_X6_chancesOf Q K) {sh : oS} {I : Nat → Nat → Int} {L : Nat → Nat → Int64} {h0 : Nat} {x1 : Int} {x3 : Int} {s0 : Int} {h0e h0p h0t : Nat} (Ah0 : MarchAt sh h0 h0e h0p h0t) (b38 : 0 ≤ x3 ∧ x3 < 2) (k : K 40 [some (vR h0), some (vI x1), none, some (vI x3)] [vI (10 - (I h0t (x3.toNat))), vI s0] (sh, I, L) (0, 0)) : K 31 [some (vR h0), some (vI x1), none, some (vI x3)] [vI s0] (sh, I, L) (0, 0) := by
  refine hK.1 31 [some (vR h0), some (vI x1), none, some (vI x3)] [vI s0] (sh, I, L) (0, 0) ?_
  refine hK.1 33 [some (vR h0), some (vI x1), none, some (vI x3)] [vI 10, vI s0] (sh, I, L) (0, 0) ?_
  refine hK.1 34 [some (vR h0), some (vI x1), none, some (vI x3)] [vR h0, vI 10, vI s0] (sh, I, L) (0, 0) ?_
  refine And.intro (mem1 Ah0.1) (Exists.intro h0t (And.intro Ah0.2.2.2.1 ?_))
  refine hK.1 37 [some (vR h0), some (vI x1), none, some (vI x3)] [vR h0t, vI 10, vI s0] (sh, I, L) (0, 0) ?_
  refine hK.1 38 [some (vR h0), some (vI x1), none, some (vI x3)] [vI x3, vR h0t, vI 10, vI s0] (sh, I, L) (0, 0) ?_
  refine And.intro (And.intro (Ah0.2.2.2.2.2.2.1) (ixL (Ah0.2.2.2.2.2.2.2) b38)) ?_
  refine hK.1 39 [some (vR h0), some (vI x1), none, some (vI x3)] [vI (I h0t (x3.toNat)), vI 10, vI s0] (sh, I, L) (0, 0) ?_
  exact k
set_option maxRecDepth 4000 in
theorem B_X6_chancesOf_40 {Q : oQ} {K : oK} (hK : oCl tb_X6_chancesOf Q K) {sh : oS} {I : Nat → Nat → Int} {L : Nat → Nat → Int64} {h0 : Nat} {x1 : Int} {x3 : Int} {s0 : Int} {s1 : Int} (k : K 4 [some (vR h0), some (vI x1), some (vI (s0 * s1)), some (vI (x3 + 1))] [] (sh, I, L) (0, 0)) : K 40 [some (vR h0), some (vI x1), none, some (vI x3)] [vI s1, vI s0] (sh, I, L) (0, 0) := by
  refine hK.1 40 [some (vR h0), some (vI x1), none, some (vI x3)] [vI s1, vI s0] (sh, I, L) (0, 0) ?_
  refine hK.1 41 [some (vR h0), some (vI x1), none, some (vI x3)] [vI (s0 * s1)] (sh, I, L) (0, 0) ?_
  refine hK.1 42 [some (vR h0), some (vI x1), some (vI (s0 * s1)), some (vI x3)] [] (sh, I, L) (0, 0) ?_
  refine hK.1 45 [some (vR h0), some (vI x1), some (vI (s0 * s1)), some (vI (x3 + 1))] [] (sh, I, L) (0, 0) ?_
  exact k
set_option maxRecDepth 4000 in
theorem B_X6_chancesOf_48 {Q : oQ} {K : oK} (hK : oCl tb_X6_chancesOf Q K) {sh : oS} {I : Nat → Nat → Int} {L : Nat → Nat → Int64} {x2 : Int} (k : Q (some (vI x2)) (sh, I, L)) : K 48 [none, none, some (vI x2), none] [] (sh, I, L) (0, 0) := by
  refine hK.1 48 [none, none, some (vI x2), none] [] (sh, I, L) (0, 0) ?_
  refine hK.1 49 [none, none, some (vI x2), none] [vI x2] (sh, I, L) (0, 0) ?_
  exact And.intro ⟨by decide, by decide⟩ k
set_option maxRecDepth 4000 in
theorem B_X6_allChances_0 {Q : oQ} {K : oK} (hK : oCl tb_X6_allChances Q K) {sh : oS} {I : Nat → Nat → Int} {L : Nat → Nat → Int64} {h0 : Nat} {h0e h0p h0t : Nat} (Ah0 : MarchAt sh h0 h0e h0p h0t) (n4 : inR (I h0 1)) (kt : ¬ I h0 1 = 0 → K 11 [some (vR h0)] [] (sh, I, L) (0, 0)) (kf : ¬ (¬ I h0 1 = 0) → K 7 [none] [] (sh, I, L) (0, 0)) : K 0 [some (vR h0)] [] (sh, I, L) (0, 0) := by
  refine hK.1 0 [some (vR h0)] [] (sh, I, L) (0, 0) ?_
  refine hK.1 1 [some (vR h0)] [vR h0] (sh, I, L) (0, 0) ?_
  refine And.intro (mem1 Ah0.1) ?_
  refine hK.1 4 [some (vR h0)] [vI (I h0 1)] (sh, I, L) (0, 0) ?_
  exact And.intro (n4) (And.intro (fun h => hK.2 [true] _ _ _ _ _ (kt h)) (fun h => hK.2 [false] _ _ _ _ _ (kf h)))
set_option maxRecDepth 4000 in
theorem B_X6_allChances_7 {Q : oQ} {K : oK} (hK : oCl tb_X6_allChances Q K) {sh : oS} {I : Nat → Nat → Int} {L : Nat → Nat → Int64}  (k : K 26 [none] [vI 1] (sh, I, L) (0, 0)) : K 7 [none] [] (sh, I, L) (0, 0) := by
  refine hK.1 7 [none] [] (sh, I, L) (0, 0) ?_
  refine hK.1 8 [none] [vI 1] (sh, I, L) (0, 0) ?_
  exact k
set_option maxRecDepth 4000 in
theorem B_X6_allChances_11 {Q : oQ} {K : oK} (hK : oCl tb_X6_allChances Q K) {sh : oS} {I : Nat → Nat → Int} {L : Nat → Nat → Int64} {h0 : Nat} {h0e h0p h0t : Nat} (Ah0 : MarchAt sh h0 h0e h0p h0t) (n16a : inR (I h0 1)) (kt : ¬ I h0 1 = 1 → K 24 [none] [] (sh, I, L) (0, 0)) (kf : ¬ (¬ I h0 1 = 1) → K 19 [none] [] (sh, I, L) (0, 0)) : K 11 [some (vR h0)] [] (sh, I, L) (0, 0) := by
  refine hK.1 11 [some (vR h0)] [] (sh, I, L) (0, 0) ?_
  refine hK.1 12 [some (vR h0)] [vR h0] (sh, I, L) (0, 0) ?_
  refine And.intro (mem1 Ah0.1) ?_
  refine hK.1 15 [some (vR h0)] [vI (I h0 1)] (sh, I, L) (0, 0) ?_
  refine hK.1 16 [some (vR h0)] [vI 1, vI (I h0 1)] (sh, I, L) (0, 0) ?_
  exact And.intro (And.intro n16a ⟨by decide, by decide⟩) (And.intro (fun h => hK.2 [false] _ _ _ _ _ (kt h)) (fun h => hK.2 [false] _ _ _ _ _ (kf h)))
set_option maxRecDepth 4000 in
theorem B_X6_allChances_19 {Q : oQ} {K : oK} (hK : oCl tb_X6_allChances Q K) {sh : oS} {I : Nat → Nat → Int} {L : Nat → Nat → Int64}  (k : K 26 [none] [vI 10] (sh, I, L) (0, 0)) : K 19 [none] [] (sh, I, L) (0, 0) := by
  refine hK.1 19 [none] [] (sh, I, L) (0, 0) ?_
  refine hK.1 21 [none] [vI 10] (sh, I, L) (0, 0) ?_
  exact k
set_option maxRecDepth 4000 in
theorem B_X6_allChances_24 {Q : oQ} {K : oK} (hK : oCl tb_X6_allChances Q K) {sh : oS} {I : Nat → Nat → Int} {L : Nat → Nat → Int64}  (k : K 26 [none] [vI 100] (sh, I, L) (0, 0)) : K 24 [none] [] (sh, I, L) (0, 0) := by
  refine hK.1 24 [none] [] (sh, I, L) (0, 0) ?_
  exact k
set_option maxRecDepth 4000 in
theorem B_X6_allChances_26 {Q : oQ} {K : oK} (hK : oCl tb_X6_allChances Q K) {sh : oS} {I : Nat → Nat → Int} {L : Nat → Nat → Int64} {s0 : Int} (k : Q (some (vI s0)) (sh, I, L)) : K 26 [none] [vI s0] (sh, I, L) (0, 0) := by
  refine hK.1 26 [none] [vI s0] (sh, I, L) (0, 0) ?_
  exact And.intro ⟨by decide, by decide⟩ k
set_option maxRecDepth 4000 in
theorem B_X1_takesOneMore_0 {Q : oQ} {K : oK} (hK : oCl tb_X1_takesOneMore Q K) {sh : oS} {I : Nat → Nat → Int} {L : Nat → Nat → Int64} {h0 : Nat} (k : Q (some (vI 0)) (sh, I, L)) : K 0 [some (vR h0)] [] (sh, I, L) (0, 0) := by
  refine hK.1 0 [some (vR h0)] [] (sh, I, L) (0, 0) ?_
  refine hK.1 1 [some (vR h0)] [vI 0] (sh, I, L) (0, 0) ?_
  exact And.intro ⟨by decide, by decide, by decide⟩ k
set_option maxRecDepth 4000 in
theorem B_X4_getMore_0 {Q : oQ} {K : oK} (hK : oCl tb_X4_getMore Q K) {sh : oS} {I : Nat → Nat → Int} {L : Nat → Nat → Int64} {h0 : Nat} {x1 : Int} (k : K (swT 1 [32, 45, 58, 72] 89 x1) [some (vR h0), none] [] (sh, I, L) (0, 0)) (n1 : inR x1) : K 0 [some (vR h0), some (vI x1)] [] (sh, I, L) (0, 0) := by
  refine hK.1 0 [some (vR h0), some (vI x1)] [] (sh, I, L) (0, 0) ?_
  refine hK.1 1 [some (vR h0), some (vI x1)] [vI x1] (sh, I, L) (0, 0) ?_
  exact And.intro n1 (hK.2 [true, false] _ _ _ _ _ k)
set_option maxRecDepth 4000 in
theorem B_X4_getMore_32 {Q : oQ} {K : oK} (hK : oCl tb_X4_getMore Q K) {sh : oS} {I : Nat → Nat → Int} {L : Nat → Nat → Int64} {h0 : Nat} {h0f h0w : Nat} (Ah0 : LandAt sh h0 h0f h0w) (k : K 89 [none, none] [] (sh, (u2 I h0 3 ((I h0 3) + 1)), L) (0, 0)) : K 32 [some (vR h0), none] [] (sh, I, L) (0, 0) := by
  refine hK.1 32 [some (vR h0), none] [] (sh, I, L) (0, 0) ?_
  refine hK.1 33 [some (vR h0), none] [vR h0] (sh, I, L) (0, 0) ?_
  refine hK.1 34 [some (vR h0), none] [vR h0, vR h0] (sh, I, L) (0, 0) ?_
  refine And.intro (mem1 Ah0.1) ?_
  refine hK.1 37 [some (vR h0), none] [vI (I h0 3), vR h0] (sh, I, L) (0, 0) ?_
  refine hK.1 38 [some (vR h0), none] [vI 1, vI (I h0 3), vR h0] (sh, I, L) (0, 0) ?_
  refine hK.1 39 [some (vR h0), none] [vI ((I h0 3) + 1), vR h0] (sh, I, L) (0, 0) ?_
  refine And.intro (mem1 Ah0.1) ?_
  refine hK.1 42 [some (vR h0), none] [] (sh, (u2 I h0 3 ((I h0 3) + 1)), L) (0, 0) ?_
  refine hK.2 [false, false] _ _ _ _ _ ?_
  exact k
set_option maxRecDepth 4000 in
theorem B_X4_getMore_45 {Q : oQ} {K : oK} (hK : oCl tb_X4_getMore Q K) {sh : oS} {I : Nat → Nat → Int} {L : Nat → Nat → Int64} {h0 : Nat} {h0f h0w : Nat} (Ah0 : LandAt sh h0 h0f h0w) (k : K 89 [none, none] [] (sh, (u2 I h0 5 ((I h0 5) + 1)), L) (0, 0)) : K 45 [some (vR h0), none] [] (sh, I, L) (0, 0) := by
  refine hK.1 45 [some (vR h0), none] [] (sh, I, L) (0, 0) ?_
  refine hK.1 46 [some (vR h0), none] [vR h0] (sh, I, L) (0, 0) ?_
  refine hK.1 47 [some (vR h0), none] [vR h0, vR h0] (sh, I, L) (0, 0) ?_
  refine And.intro (mem1 Ah0.1) ?_
  refine hK.1 50 [some (vR h0), none] [vI (I h0 5), vR h0] (sh, I, L) (0, 0) ?_
  refine hK.1 51 [some (vR h0), none] [vI 1, vI (I h0 5), vR h0] (sh, I, L) (0, 0) ?_
  refine hK.1 52 [some (vR h0), none] [vI ((I h0 5) + 1), vR h0] (sh, I, L) (0, 0) ?_
  refine And.intro (mem1 Ah0.1) ?_
  refine hK.1 55 [some (vR h0), none] [] (sh, (u2 I h0 5 ((I h0 5) + 1)), L) (0, 0) ?_
  refine hK.2 [false, false] _ _ _ _ _ ?_
  exact k
set_option maxRecDepth 4000 in
theorem B_X4_getMore_58 {Q : oQ} {K : oK} (hK : oCl tb_X4_getMore Q K) {sh : oS} {I : Nat → Nat → Int} {L : Nat → Nat → Int64} {h0 : Nat} {h0f h0w : Nat} (Ah0 : LandAt sh h0 h0f h0w) (k : K 89 [none, none] [] (sh, (u2 I h0f 0 ((I h0f 0) + 10)), L) (0, 0)) : K 58 [some (vR h0), none] [] (sh, I, L) (0, 0) := by
  refine hK.1 58 [some (vR h0), none] [] (sh, I, L) (0, 0) ?_
  refine hK.1 59 [some (vR h0), none] [vR h0] (sh, I, L) (0, 0) ?_
  refine And.intro (mem1 Ah0.1) (Exists.intro h0f (And.intro Ah0.2.1 ?_))
  refine hK.1 62 [some (vR h0), none] [vR h0f] (sh, I, L) (0, 0) ?_
  refine hK.1 63 [some (vR h0), none] [vI 0, vR h0f] (sh, I, L) (0, 0) ?_
  refine hK.1 64 [some (vR h0), none] [vI 0, vR h0f, vI 0, vR h0f] (sh, I, L) (0, 0) ?_
  refine And.intro (And.intro (Ah0.2.2.2.1.1) (ixL (Ah0.2.2.2.1.2) ⟨by decide, by decide⟩)) ?_
  refine hK.1 65 [some (vR h0), none] [vI (I h0f 0), vI 0, vR h0f] (sh, I, L) (0, 0) ?_
  refine hK.1 67 [some (vR h0), none] [vI 10, vI (I h0f 0), vI 0, vR h0f] (sh, I, L) (0, 0) ?_
  refine hK.1 68 [some (vR h0), none] [vI ((I h0f 0) + 10), vI 0, vR h0f] (sh, I, L) (0, 0) ?_
  refine And.intro (And.intro (Ah0.2.2.2.1.1) (ixL (Ah0.2.2.2.1.2) ⟨by decide, by decide⟩)) ?_
  refine hK.1 69 [some (vR h0), none] [] (sh, (u2 I h0f 0 ((I h0f 0) + 10)), L) (0, 0) ?_
  refine hK.2 [false, false] _ _ _ _ _ ?_
  exact k
set_option maxRecDepth 4000 in
theorem B_X4_getMore_72 {Q : oQ} {K : oK} (hK : oCl tb_X4_getMore Q K) {sh : oS} {I : Nat → Nat → Int} {L : Nat → Nat → Int64} {h0 : Nat} {h0f h0w : Nat} (Ah0 : LandAt sh h0 h0f h0w) (n80b : inR ((I h0 4) - 1)) (k : K 89 [none, none] [] (sh, (u2 I h0 4 (fMax 0 ((I h0 4) - 1))), L) (0, 0)) : K 72 [some (vR h0), none] [] (sh, I, L) (0, 0) := by
  refine hK.1 72 [some (vR h0), none] [] (sh, I, L) (0, 0) ?_
  refine hK.1 73 [some (vR h0), none] [vR h0] (sh, I, L) (0, 0) ?_
  refine hK.1 74 [some (vR h0), none] [vI 0, vR h0] (sh, I, L) (0, 0) ?_
  refine hK.1 75 [some (vR h0), none] [vR h0, vI 0, vR h0] (sh, I, L) (0, 0) ?_
  refine And.intro (mem1 Ah0.1) ?_
  refine hK.1 78 [some (vR h0), none] [vI (I h0 4), vI 0, vR h0] (sh, I, L) (0, 0) ?_
  refine hK.1 79 [some (vR h0), none] [vI 1, vI (I h0 4), vI 0, vR h0] (sh, I, L) (0, 0) ?_
  refine hK.1 80 [some (vR h0), none] [vI ((I h0 4) - 1), vI 0, vR h0] (sh, I, L) (0, 0) ?_
  refine And.intro ⟨⟨by decide, by decide⟩, n80b, Nat.le_of_ble_eq_true rfl, Nat.le_of_ble_eq_true rfl, Nat.le_of_ble_eq_true rfl⟩ ?_
  refine hK.1 83 [some (vR h0), none] [vI (fMax 0 ((I h0 4) - 1)), vR h0] (sh, I, L) (0, 0) ?_
  refine And.intro (mem1 Ah0.1) ?_
  refine hK.1 86 [some (vR h0), none] [] (sh, (u2 I h0 4 (fMax 0 ((I h0 4) - 1))), L) (0, 0) ?_
  refine hK.2 [false, false] _ _ _ _ _ ?_
  exact k
set_option maxRecDepth 4000 in
theorem B_X4_getMore_89 {Q : oQ} {K : oK} (hK : oCl tb_X4_getMore Q K) {sh : oS} {I : Nat → Nat → Int} {L : Nat → Nat → Int64}  (k : Q none (sh, I, L)) : K 89 [none, none] [] (sh, I, L) (0, 0) := by
  refine hK.1 89 [none, none] [] (sh, I, L) (0, 0) ?_
  exact And.intro rfl (And.intro ⟨by decide, by decide⟩ k)
