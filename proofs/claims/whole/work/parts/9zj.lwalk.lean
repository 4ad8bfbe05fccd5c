/-! the law, call by call -/
section LAW
variable {a n : Nat} {xs : Nat → Int32} {Q : oQ} {K : oK}
set_option maxRecDepth 4000 in
theorem lc_0 (hK : oCl (tb_L a n xs) Q K) {sh : oS} {I : Nat → Nat → Int} {L : Nat → Nat → Int64} (hs : Sh sh) {b : Nat} (R : Rel sh I b 0) (hb : b ≤ 10000) {i ga gb : Nat} (hi : i + 5 ≤ n) (g1 : ga + 4 ≤ 600000) (g2 : gb + 27 ≤ 7302250) (k : ∀ sh2 Z L2 ga2 gb2, ga2 ≤ ga + 4 → gb2 ≤ gb + 27 → Sh sh2 → Rel sh2 Z (b + 1) 0 → K 1149 [some (vX a), some (vR 0), some (vR 44), some (vI (i : Int))] [] (sh2, Z, L2) (ga2, gb2)) : K 168 [some (vX a), some (vR 0), some (vR 44), some (vI (i : Int))] [] (sh, I, L) (ga, gb) := by
  refine hK.1 168 [some (vX a), some (vR 0), some (vR 44), some (vI (i : Int))] [] (sh, I, L) (ga, gb) ?_
  refine hK.1 169 [some (vX a), some (vR 0), some (vR 44), some (vI (i : Int))] [vR 0] (sh, I, L) (ga, gb) ?_
  refine hK.1 170 [some (vX a), some (vR 0), some (vR 44), some (vI (i : Int))] [vX a, vR 0] (sh, I, L) (ga, gb) ?_
  refine hK.1 171 [some (vX a), some (vR 0), some (vR 44), some (vI (i : Int))] [vI (i : Int), vX a, vR 0] (sh, I, L) (ga, gb) ?_
  refine hK.1 172 [some (vX a), some (vR 0), some (vR 44), some (vI (i : Int))] [vI 1, vI (i : Int), vX a, vR 0] (sh, I, L) (ga, gb) ?_
  refine hK.1 173 [some (vX a), some (vR 0), some (vR 44), some (vI (i : Int))] [vI ((i : Int) + 1), vX a, vR 0] (sh, I, L) (ga, gb) ?_
  refine And.intro ⟨rfl, by omega, by omega⟩ ?_
  refine hK.1 174 [some (vX a), some (vR 0), some (vR 44), some (vI (i : Int))] [vI (xs (((i : Int) + 1)).toNat).toInt, vR 0] (sh, I, L) (ga, gb) ?_
  refine hK.1 175 [some (vX a), some (vR 0), some (vR 44), some (vI (i : Int))] [vL (Int32.ofInt ((xs (((i : Int) + 1)).toNat).toInt)).toInt64, vR 0] (sh, I, L) (ga, gb) ?_
  refine hK.1 177 [some (vX a), some (vR 0), some (vR 44), some (vI (i : Int))] [vI 32, vL (Int32.ofInt ((xs (((i : Int) + 1)).toNat).toInt)).toInt64, vR 0] (sh, I, L) (ga, gb) ?_
  refine hK.1 178 [some (vX a), some (vR 0), some (vR 44), some (vI (i : Int))] [vL (gShl ((Int32.ofInt ((xs (((i : Int) + 1)).toNat).toInt)).toInt64) (Int32.ofInt 32)), vR 0] (sh, I, L) (ga, gb) ?_
  refine hK.1 179 [some (vX a), some (vR 0), some (vR 44), some (vI (i : Int))] [vX a, vL (gShl ((Int32.ofInt ((xs (((i : Int) + 1)).toNat).toInt)).toInt64) (Int32.ofInt 32)), vR 0] (sh, I, L) (ga, gb) ?_
  refine hK.1 180 [some (vX a), some (vR 0), some (vR 44), some (vI (i : Int))] [vI (i : Int), vX a, vL (gShl ((Int32.ofInt ((xs (((i : Int) + 1)).toNat).toInt)).toInt64) (Int32.ofInt 32)), vR 0] (sh, I, L) (ga, gb) ?_
  refine hK.1 181 [some (vX a), some (vR 0), some (vR 44), some (vI (i : Int))] [vI 2, vI (i : Int), vX a, vL (gShl ((Int32.ofInt ((xs (((i : Int) + 1)).toNat).toInt)).toInt64) (Int32.ofInt 32)), vR 0] (sh, I, L) (ga, gb) ?_
  refine hK.1 182 [some (vX a), some (vR 0), some (vR 44), some (vI (i : Int))] [vI ((i : Int) + 2), vX a, vL (gShl ((Int32.ofInt ((xs (((i : Int) + 1)).toNat).toInt)).toInt64) (Int32.ofInt 32)), vR 0] (sh, I, L) (ga, gb) ?_
  refine And.intro ⟨rfl, by omega, by omega⟩ ?_
  refine hK.1 183 [some (vX a), some (vR 0), some (vR 44), some (vI (i : Int))] [vI (xs (((i : Int) + 2)).toNat).toInt, vL (gShl ((Int32.ofInt ((xs (((i : Int) + 1)).toNat).toInt)).toInt64) (Int32.ofInt 32)), vR 0] (sh, I, L) (ga, gb) ?_
  refine hK.1 184 [some (vX a), some (vR 0), some (vR 44), some (vI (i : Int))] [vL (Int32.ofInt ((xs (((i : Int) + 2)).toNat).toInt)).toInt64, vL (gShl ((Int32.ofInt ((xs (((i : Int) + 1)).toNat).toInt)).toInt64) (Int32.ofInt 32)), vR 0] (sh, I, L) (ga, gb) ?_
  refine hK.1 187 [some (vX a), some (vR 0), some (vR 44), some (vI (i : Int))] [vL 4294967295, vL (Int32.ofInt ((xs (((i : Int) + 2)).toNat).toInt)).toInt64, vL (gShl ((Int32.ofInt ((xs (((i : Int) + 1)).toNat).toInt)).toInt64) (Int32.ofInt 32)), vR 0] (sh, I, L) (ga, gb) ?_
  refine hK.1 188 [some (vX a), some (vR 0), some (vR 44), some (vI (i : Int))] [vL (gAnd ((Int32.ofInt ((xs (((i : Int) + 2)).toNat).toInt)).toInt64) 4294967295), vL (gShl ((Int32.ofInt ((xs (((i : Int) + 1)).toNat).toInt)).toInt64) (Int32.ofInt 32)), vR 0] (sh, I, L) (ga, gb) ?_
  refine hK.1 189 [some (vX a), some (vR 0), some (vR 44), some (vI (i : Int))] [vL (gOr ((gShl ((Int32.ofInt ((xs (((i : Int) + 1)).toNat).toInt)).toInt64) (Int32.ofInt 32))) ((gAnd ((Int32.ofInt ((xs (((i : Int) + 2)).toNat).toInt)).toInt64) 4294967295))), vR 0] (sh, I, L) (ga, gb) ?_
  refine And.intro ⟨sk_0 hs, Nat.le_of_ble_eq_true rfl, Nat.le_of_ble_eq_true rfl, by show ga + 0 ≤ 600000; omega, by show gb + 0 ≤ 7302250; omega⟩ ?_
  refine (pr_letters (L := L) hs R ((gOr ((gShl ((Int32.ofInt ((xs (((i : Int) + 1)).toNat).toInt)).toInt64) (Int32.ofInt 32))) ((gAnd ((Int32.ofInt ((xs (((i : Int) + 2)).toNat).toInt)).toInt64) 4294967295))))) _ (fun x mm nx => ?_)
  obtain ⟨sh1, J1, L1⟩ := mm
  refine hK.1 192 [some (vX a), some (vR 0), some (vR 44), some (vI (i : Int))] [vI x] (sh1, J1, L1) (ga + 0, gb + 0) ?_
  refine hK.1 193 [some (vX a), some (vR 0), some (vR 44), some (vI (i : Int))] [vR 44, vI x] (sh1, J1, L1) (ga + 0, gb + 0) ?_
  refine hK.1 194 [some (vX a), some (vR 0), some (vR 44), some (vI (i : Int))] [vX a, vR 44, vI x] (sh1, J1, L1) (ga + 0, gb + 0) ?_
  refine hK.1 195 [some (vX a), some (vR 0), some (vR 44), some (vI (i : Int))] [vI (i : Int), vX a, vR 44, vI x] (sh1, J1, L1) (ga + 0, gb + 0) ?_
  refine hK.1 196 [some (vX a), some (vR 0), some (vR 44), some (vI (i : Int))] [vI 1, vI (i : Int), vX a, vR 44, vI x] (sh1, J1, L1) (ga + 0, gb + 0) ?_
  refine hK.1 197 [some (vX a), some (vR 0), some (vR 44), some (vI (i : Int))] [vI ((i : Int) + 1), vX a, vR 44, vI x] (sh1, J1, L1) (ga + 0, gb + 0) ?_
  refine And.intro ⟨rfl, by omega, by omega⟩ ?_
  refine hK.1 198 [some (vX a), some (vR 0), some (vR 44), some (vI (i : Int))] [vI (xs (((i : Int) + 1)).toNat).toInt, vR 44, vI x] (sh1, J1, L1) (ga + 0, gb + 0) ?_
  refine hK.1 199 [some (vX a), some (vR 0), some (vR 44), some (vI (i : Int))] [vL (Int32.ofInt ((xs (((i : Int) + 1)).toNat).toInt)).toInt64, vR 44, vI x] (sh1, J1, L1) (ga + 0, gb + 0) ?_
  refine hK.1 201 [some (vX a), some (vR 0), some (vR 44), some (vI (i : Int))] [vI 32, vL (Int32.ofInt ((xs (((i : Int) + 1)).toNat).toInt)).toInt64, vR 44, vI x] (sh1, J1, L1) (ga + 0, gb + 0) ?_
  refine hK.1 202 [some (vX a), some (vR 0), some (vR 44), some (vI (i : Int))] [vL (gShl ((Int32.ofInt ((xs (((i : Int) + 1)).toNat).toInt)).toInt64) (Int32.ofInt 32)), vR 44, vI x] (sh1, J1, L1) (ga + 0, gb + 0) ?_
  refine hK.1 203 [some (vX a), some (vR 0), some (vR 44), some (vI (i : Int))] [vX a, vL (gShl ((Int32.ofInt ((xs (((i : Int) + 1)).toNat).toInt)).toInt64) (Int32.ofInt 32)), vR 44, vI x] (sh1, J1, L1) (ga + 0, gb + 0) ?_
  refine hK.1 204 [some (vX a), some (vR 0), some (vR 44), some (vI (i : Int))] [vI (i : Int), vX a, vL (gShl ((Int32.ofInt ((xs (((i : Int) + 1)).toNat).toInt)).toInt64) (Int32.ofInt 32)), vR 44, vI x] (sh1, J1, L1) (ga + 0, gb + 0) ?_
  refine hK.1 205 [some (vX a), some (vR 0), some (vR 44), some (vI (i : Int))] [vI 2, vI (i : Int), vX a, vL (gShl ((Int32.ofInt ((xs (((i : Int) + 1)).toNat).toInt)).toInt64) (Int32.ofInt 32)), vR 44, vI x] (sh1, J1, L1) (ga + 0, gb + 0) ?_
  refine hK.1 206 [some (vX a), some (vR 0), some (vR 44), some (vI (i : Int))] [vI ((i : Int) + 2), vX a, vL (gShl ((Int32.ofInt ((xs (((i : Int) + 1)).toNat).toInt)).toInt64) (Int32.ofInt 32)), vR 44, vI x] (sh1, J1, L1) (ga + 0, gb + 0) ?_
  refine And.intro ⟨rfl, by omega, by omega⟩ ?_
  refine hK.1 207 [some (vX a), some (vR 0), some (vR 44), some (vI (i : Int))] [vI (xs (((i : Int) + 2)).toNat).toInt, vL (gShl ((Int32.ofInt ((xs (((i : Int) + 1)).toNat).toInt)).toInt64) (Int32.ofInt 32)), vR 44, vI x] (sh1, J1, L1) (ga + 0, gb + 0) ?_
  refine hK.1 208 [some (vX a), some (vR 0), some (vR 44), some (vI (i : Int))] [vL (Int32.ofInt ((xs (((i : Int) + 2)).toNat).toInt)).toInt64, vL (gShl ((Int32.ofInt ((xs (((i : Int) + 1)).toNat).toInt)).toInt64) (Int32.ofInt 32)), vR 44, vI x] (sh1, J1, L1) (ga + 0, gb + 0) ?_
  refine hK.1 211 [some (vX a), some (vR 0), some (vR 44), some (vI (i : Int))] [vL 4294967295, vL (Int32.ofInt ((xs (((i : Int) + 2)).toNat).toInt)).toInt64, vL (gShl ((Int32.ofInt ((xs (((i : Int) + 1)).toNat).toInt)).toInt64) (Int32.ofInt 32)), vR 44, vI x] (sh1, J1, L1) (ga + 0, gb + 0) ?_
  refine hK.1 212 [some (vX a), some (vR 0), some (vR 44), some (vI (i : Int))] [vL (gAnd ((Int32.ofInt ((xs (((i : Int) + 2)).toNat).toInt)).toInt64) 4294967295), vL (gShl ((Int32.ofInt ((xs (((i : Int) + 1)).toNat).toInt)).toInt64) (Int32.ofInt 32)), vR 44, vI x] (sh1, J1, L1) (ga + 0, gb + 0) ?_
  refine hK.1 213 [some (vX a), some (vR 0), some (vR 44), some (vI (i : Int))] [vL (gOr ((gShl ((Int32.ofInt ((xs (((i : Int) + 1)).toNat).toInt)).toInt64) (Int32.ofInt 32))) ((gAnd ((Int32.ofInt ((xs (((i : Int) + 2)).toNat).toInt)).toInt64) 4294967295))), vR 44, vI x] (sh1, J1, L1) (ga + 0, gb + 0) ?_
  refine And.intro ⟨sk_44 nx.1, Nat.le_of_ble_eq_true rfl, Nat.le_of_ble_eq_true rfl, by show ga + 0 + 0 ≤ 600000; omega, by show gb + 0 + 0 ≤ 7302250; omega⟩ (nx.2 _ (fun sh2 Z L2 hs2 R2 => ?_))
  refine hK.1 216 [some (vX a), some (vR 0), some (vR 44), some (vI (i : Int))] [vI x, vI x] (sh2, Z, L2) (ga + 0 + 0, gb + 0 + 0) ?_
  exact And.intro rfl (k _ _ _ _ _ (by omega) (by omega) hs2 R2)
set_option maxRecDepth 4000 in
theorem lc_1 (hK : oCl (tb_L a n xs) Q K) {sh : oS} {I : Nat → Nat → Int} {L : Nat → Nat → Int64} (hs : Sh sh) {b : Nat} (R : Rel sh I b 0) (hb : b ≤ 10000) {i ga gb : Nat} (hi : i + 5 ≤ n) (g1 : ga + 4 ≤ 600000) (g2 : gb + 27 ≤ 7302250) (k : ∀ sh2 Z L2 ga2 gb2, ga2 ≤ ga + 4 → gb2 ≤ gb + 27 → Sh sh2 → Rel sh2 Z (b + 1) 0 → K 1149 [some (vX a), some (vR 0), some (vR 44), some (vI (i : Int))] [] (sh2, Z, L2) (ga2, gb2)) : K 221 [some (vX a), some (vR 0), some (vR 44), some (vI (i : Int))] [] (sh, I, L) (ga, gb) := by
  refine hK.1 221 [some (vX a), some (vR 0), some (vR 44), some (vI (i : Int))] [] (sh, I, L) (ga, gb) ?_
  refine hK.1 222 [some (vX a), some (vR 0), some (vR 44), some (vI (i : Int))] [vR 0] (sh, I, L) (ga, gb) ?_
  refine And.intro ⟨sk_0 hs, Nat.le_of_ble_eq_true rfl, Nat.le_of_ble_eq_true rfl, by show ga + 0 ≤ 600000; omega, by show gb + 0 ≤ 7302250; omega⟩ ?_
  refine (pr_blank (L := L) hs R) _ (fun x mm nx => ?_)
  obtain ⟨sh1, J1, L1⟩ := mm
  refine hK.1 225 [some (vX a), some (vR 0), some (vR 44), some (vI (i : Int))] [vI x] (sh1, J1, L1) (ga + 0, gb + 0) ?_
  refine hK.1 226 [some (vX a), some (vR 0), some (vR 44), some (vI (i : Int))] [vR 44, vI x] (sh1, J1, L1) (ga + 0, gb + 0) ?_
  refine And.intro ⟨sk_44 nx.1, Nat.le_of_ble_eq_true rfl, Nat.le_of_ble_eq_true rfl, by show ga + 0 + 0 ≤ 600000; omega, by show gb + 0 + 0 ≤ 7302250; omega⟩ (nx.2 _ (fun sh2 Z L2 hs2 R2 => ?_))
  refine hK.1 229 [some (vX a), some (vR 0), some (vR 44), some (vI (i : Int))] [vI x, vI x] (sh2, Z, L2) (ga + 0 + 0, gb + 0 + 0) ?_
  exact And.intro rfl (k _ _ _ _ _ (by omega) (by omega) hs2 R2)
set_option maxRecDepth 4000 in
theorem lc_2 (hK : oCl (tb_L a n xs) Q K) {sh : oS} {I : Nat → Nat → Int} {L : Nat → Nat → Int64} (hs : Sh sh) {b : Nat} (R : Rel sh I b 0) (hb : b ≤ 10000) {i ga gb : Nat} (hi : i + 5 ≤ n) (g1 : ga + 4 ≤ 600000) (g2 : gb + 27 ≤ 7302250) (k : ∀ sh2 Z L2 ga2 gb2, ga2 ≤ ga + 4 → gb2 ≤ gb + 27 → Sh sh2 → Rel sh2 Z (b + 1) 0 → K 1149 [some (vX a), some (vR 0), some (vR 44), some (vI (i : Int))] [] (sh2, Z, L2) (ga2, gb2)) : K 234 [some (vX a), some (vR 0), some (vR 44), some (vI (i : Int))] [] (sh, I, L) (ga, gb) := by
  refine hK.1 234 [some (vX a), some (vR 0), some (vR 44), some (vI (i : Int))] [] (sh, I, L) (ga, gb) ?_
  refine hK.1 235 [some (vX a), some (vR 0), some (vR 44), some (vI (i : Int))] [vR 0] (sh, I, L) (ga, gb) ?_
  refine hK.1 236 [some (vX a), some (vR 0), some (vR 44), some (vI (i : Int))] [vX a, vR 0] (sh, I, L) (ga, gb) ?_
  refine hK.1 237 [some (vX a), some (vR 0), some (vR 44), some (vI (i : Int))] [vI (i : Int), vX a, vR 0] (sh, I, L) (ga, gb) ?_
  refine hK.1 238 [some (vX a), some (vR 0), some (vR 44), some (vI (i : Int))] [vI 1, vI (i : Int), vX a, vR 0] (sh, I, L) (ga, gb) ?_
  refine hK.1 239 [some (vX a), some (vR 0), some (vR 44), some (vI (i : Int))] [vI ((i : Int) + 1), vX a, vR 0] (sh, I, L) (ga, gb) ?_
  refine And.intro ⟨rfl, by omega, by omega⟩ ?_
  refine hK.1 240 [some (vX a), some (vR 0), some (vR 44), some (vI (i : Int))] [vI (xs (((i : Int) + 1)).toNat).toInt, vR 0] (sh, I, L) (ga, gb) ?_
  refine And.intro ⟨sk_0 hs, Nat.le_of_ble_eq_true rfl, Nat.le_of_ble_eq_true rfl, by show ga + 0 ≤ 600000; omega, by show gb + 0 ≤ 7302250; omega⟩ ?_
  refine (pr_fault (L := L) hs R (on_r (xs (((i : Int) + 1)).toNat))) _ (fun x mm nx => ?_)
  obtain ⟨sh1, J1, L1⟩ := mm
  refine hK.1 243 [some (vX a), some (vR 0), some (vR 44), some (vI (i : Int))] [vI x] (sh1, J1, L1) (ga + 0, gb + 0) ?_
  refine hK.1 244 [some (vX a), some (vR 0), some (vR 44), some (vI (i : Int))] [vR 44, vI x] (sh1, J1, L1) (ga + 0, gb + 0) ?_
  refine hK.1 245 [some (vX a), some (vR 0), some (vR 44), some (vI (i : Int))] [vX a, vR 44, vI x] (sh1, J1, L1) (ga + 0, gb + 0) ?_
  refine hK.1 246 [some (vX a), some (vR 0), some (vR 44), some (vI (i : Int))] [vI (i : Int), vX a, vR 44, vI x] (sh1, J1, L1) (ga + 0, gb + 0) ?_
  refine hK.1 247 [some (vX a), some (vR 0), some (vR 44), some (vI (i : Int))] [vI 1, vI (i : Int), vX a, vR 44, vI x] (sh1, J1, L1) (ga + 0, gb + 0) ?_
  refine hK.1 248 [some (vX a), some (vR 0), some (vR 44), some (vI (i : Int))] [vI ((i : Int) + 1), vX a, vR 44, vI x] (sh1, J1, L1) (ga + 0, gb + 0) ?_
  refine And.intro ⟨rfl, by omega, by omega⟩ ?_
  refine hK.1 249 [some (vX a), some (vR 0), some (vR 44), some (vI (i : Int))] [vI (xs (((i : Int) + 1)).toNat).toInt, vR 44, vI x] (sh1, J1, L1) (ga + 0, gb + 0) ?_
  refine And.intro ⟨sk_44 nx.1, Nat.le_of_ble_eq_true rfl, Nat.le_of_ble_eq_true rfl, by show ga + 0 + 0 ≤ 600000; omega, by show gb + 0 + 0 ≤ 7302250; omega⟩ (nx.2 _ (fun sh2 Z L2 hs2 R2 => ?_))
  refine hK.1 252 [some (vX a), some (vR 0), some (vR 44), some (vI (i : Int))] [vI x, vI x] (sh2, Z, L2) (ga + 0 + 0, gb + 0 + 0) ?_
  exact And.intro rfl (k _ _ _ _ _ (by omega) (by omega) hs2 R2)
set_option maxRecDepth 4000 in
theorem lc_3 (hK : oCl (tb_L a n xs) Q K) {sh : oS} {I : Nat → Nat → Int} {L : Nat → Nat → Int64} (hs : Sh sh) {b : Nat} (R : Rel sh I b 0) (hb : b ≤ 10000) {i ga gb : Nat} (hi : i + 5 ≤ n) (g1 : ga + 4 ≤ 600000) (g2 : gb + 27 ≤ 7302250) (k : ∀ sh2 Z L2 ga2 gb2, ga2 ≤ ga + 4 → gb2 ≤ gb + 27 → Sh sh2 → Rel sh2 Z (b + 1) 0 → K 1149 [some (vX a), some (vR 0), some (vR 44), some (vI (i : Int))] [] (sh2, Z, L2) (ga2, gb2)) : K 257 [some (vX a), some (vR 0), some (vR 44), some (vI (i : Int))] [] (sh, I, L) (ga, gb) := by
  refine hK.1 257 [some (vX a), some (vR 0), some (vR 44), some (vI (i : Int))] [] (sh, I, L) (ga, gb) ?_
  refine hK.1 258 [some (vX a), some (vR 0), some (vR 44), some (vI (i : Int))] [vR 0] (sh, I, L) (ga, gb) ?_
  refine And.intro ⟨sk_0 hs, Nat.le_of_ble_eq_true rfl, Nat.le_of_ble_eq_true rfl, by show ga + 0 ≤ 600000; omega, by show gb + 0 ≤ 7302250; omega⟩ ?_
  refine (pr_land (L := L) hs R) _ (fun x mm nx => ?_)
  obtain ⟨sh1, J1, L1⟩ := mm
  refine hK.1 261 [some (vX a), some (vR 0), some (vR 44), some (vI (i : Int))] [vI x] (sh1, J1, L1) (ga + 0, gb + 0) ?_
  refine hK.1 262 [some (vX a), some (vR 0), some (vR 44), some (vI (i : Int))] [vR 44, vI x] (sh1, J1, L1) (ga + 0, gb + 0) ?_
  refine And.intro ⟨sk_44 nx.1, Nat.le_of_ble_eq_true rfl, Nat.le_of_ble_eq_true rfl, by show ga + 0 + 0 ≤ 600000; omega, by show gb + 0 + 0 ≤ 7302250; omega⟩ (nx.2 _ (fun sh2 Z L2 hs2 R2 => ?_))
  refine hK.1 265 [some (vX a), some (vR 0), some (vR 44), some (vI (i : Int))] [vI x, vI x] (sh2, Z, L2) (ga + 0 + 0, gb + 0 + 0) ?_
  exact And.intro rfl (k _ _ _ _ _ (by omega) (by omega) hs2 R2)
set_option maxRecDepth 4000 in
theorem lc_4 (hK : oCl (tb_L a n xs) Q K) {sh : oS} {I : Nat → Nat → Int} {L : Nat → Nat → Int64} (hs : Sh sh) {b : Nat} (R : Rel sh I b 0) (hb : b ≤ 10000) {i ga gb : Nat} (hi : i + 5 ≤ n) (g1 : ga + 4 ≤ 600000) (g2 : gb + 27 ≤ 7302250) (k : ∀ sh2 Z L2 ga2 gb2, ga2 ≤ ga + 4 → gb2 ≤ gb + 27 → Sh sh2 → Rel sh2 Z (b + 1) 0 → K 1149 [some (vX a), some (vR 0), some (vR 44), some (vI (i : Int))] [] (sh2, Z, L2) (ga2, gb2)) : K 270 [some (vX a), some (vR 0), some (vR 44), some (vI (i : Int))] [] (sh, I, L) (ga, gb) := by
  refine hK.1 270 [some (vX a), some (vR 0), some (vR 44), some (vI (i : Int))] [] (sh, I, L) (ga, gb) ?_
  refine hK.1 271 [some (vX a), some (vR 0), some (vR 44), some (vI (i : Int))] [vR 0] (sh, I, L) (ga, gb) ?_
  refine And.intro ⟨sk_0 hs, Nat.le_of_ble_eq_true rfl, Nat.le_of_ble_eq_true rfl, by show ga + 4 ≤ 600000; omega, by show gb + 27 ≤ 7302250; omega⟩ ?_
  refine (pr_march (L := L) hs R) _ (fun x mm nx => ?_)
  obtain ⟨sh1, J1, L1⟩ := mm
  refine hK.1 274 [some (vX a), some (vR 0), some (vR 44), some (vI (i : Int))] [vI x] (sh1, J1, L1) (ga + 4, gb + 27) ?_
  refine hK.1 275 [some (vX a), some (vR 0), some (vR 44), some (vI (i : Int))] [vR 44, vI x] (sh1, J1, L1) (ga + 4, gb + 27) ?_
  refine And.intro ⟨sk_44 nx.1, Nat.le_of_ble_eq_true rfl, Nat.le_of_ble_eq_true rfl, by show ga + 4 + 0 ≤ 600000; omega, by show gb + 27 + 0 ≤ 7302250; omega⟩ (nx.2 _ (fun sh2 Z L2 hs2 R2 => ?_))
  refine hK.1 278 [some (vX a), some (vR 0), some (vR 44), some (vI (i : Int))] [vI x, vI x] (sh2, Z, L2) (ga + 4 + 0, gb + 27 + 0) ?_
  exact And.intro rfl (k _ _ _ _ _ (by omega) (by omega) hs2 R2)
set_option maxRecDepth 4000 in
theorem lc_5 (hK : oCl (tb_L a n xs) Q K) {sh : oS} {I : Nat → Nat → Int} {L : Nat → Nat → Int64} (hs : Sh sh) {b : Nat} (R : Rel sh I b 0) (hb : b ≤ 10000) {i ga gb : Nat} (hi : i + 5 ≤ n) (g1 : ga + 4 ≤ 600000) (g2 : gb + 27 ≤ 7302250) (k : ∀ sh2 Z L2 ga2 gb2, ga2 ≤ ga + 4 → gb2 ≤ gb + 27 → Sh sh2 → Rel sh2 Z (b + 1) 0 → K 1149 [some (vX a), some (vR 0), some (vR 44), some (vI (i : Int))] [] (sh2, Z, L2) (ga2, gb2)) : K 283 [some (vX a), some (vR 0), some (vR 44), some (vI (i : Int))] [] (sh, I, L) (ga, gb) := by
  refine hK.1 283 [some (vX a), some (vR 0), some (vR 44), some (vI (i : Int))] [] (sh, I, L) (ga, gb) ?_
  refine hK.1 284 [some (vX a), some (vR 0), some (vR 44), some (vI (i : Int))] [vR 0] (sh, I, L) (ga, gb) ?_
  refine hK.1 285 [some (vX a), some (vR 0), some (vR 44), some (vI (i : Int))] [vX a, vR 0] (sh, I, L) (ga, gb) ?_
  refine hK.1 286 [some (vX a), some (vR 0), some (vR 44), some (vI (i : Int))] [vI (i : Int), vX a, vR 0] (sh, I, L) (ga, gb) ?_
  refine hK.1 287 [some (vX a), some (vR 0), some (vR 44), some (vI (i : Int))] [vI 1, vI (i : Int), vX a, vR 0] (sh, I, L) (ga, gb) ?_
  refine hK.1 288 [some (vX a), some (vR 0), some (vR 44), some (vI (i : Int))] [vI ((i : Int) + 1), vX a, vR 0] (sh, I, L) (ga, gb) ?_
  refine And.intro ⟨rfl, by omega, by omega⟩ ?_
  refine hK.1 289 [some (vX a), some (vR 0), some (vR 44), some (vI (i : Int))] [vI (xs (((i : Int) + 1)).toNat).toInt, vR 0] (sh, I, L) (ga, gb) ?_
  refine hK.1 290 [some (vX a), some (vR 0), some (vR 44), some (vI (i : Int))] [vX a, vI (xs (((i : Int) + 1)).toNat).toInt, vR 0] (sh, I, L) (ga, gb) ?_
  refine hK.1 291 [some (vX a), some (vR 0), some (vR 44), some (vI (i : Int))] [vI (i : Int), vX a, vI (xs (((i : Int) + 1)).toNat).toInt, vR 0] (sh, I, L) (ga, gb) ?_
  refine hK.1 292 [some (vX a), some (vR 0), some (vR 44), some (vI (i : Int))] [vI 2, vI (i : Int), vX a, vI (xs (((i : Int) + 1)).toNat).toInt, vR 0] (sh, I, L) (ga, gb) ?_
  refine hK.1 293 [some (vX a), some (vR 0), some (vR 44), some (vI (i : Int))] [vI ((i : Int) + 2), vX a, vI (xs (((i : Int) + 1)).toNat).toInt, vR 0] (sh, I, L) (ga, gb) ?_
  refine And.intro ⟨rfl, by omega, by omega⟩ ?_
  refine hK.1 294 [some (vX a), some (vR 0), some (vR 44), some (vI (i : Int))] [vI (xs (((i : Int) + 2)).toNat).toInt, vI (xs (((i : Int) + 1)).toNat).toInt, vR 0] (sh, I, L) (ga, gb) ?_
  refine hK.1 295 [some (vX a), some (vR 0), some (vR 44), some (vI (i : Int))] [vX a, vI (xs (((i : Int) + 2)).toNat).toInt, vI (xs (((i : Int) + 1)).toNat).toInt, vR 0] (sh, I, L) (ga, gb) ?_
  refine hK.1 296 [some (vX a), some (vR 0), some (vR 44), some (vI (i : Int))] [vI (i : Int), vX a, vI (xs (((i : Int) + 2)).toNat).toInt, vI (xs (((i : Int) + 1)).toNat).toInt, vR 0] (sh, I, L) (ga, gb) ?_
  refine hK.1 297 [some (vX a), some (vR 0), some (vR 44), some (vI (i : Int))] [vI 3, vI (i : Int), vX a, vI (xs (((i : Int) + 2)).toNat).toInt, vI (xs (((i : Int) + 1)).toNat).toInt, vR 0] (sh, I, L) (ga, gb) ?_
  refine hK.1 298 [some (vX a), some (vR 0), some (vR 44), some (vI (i : Int))] [vI ((i : Int) + 3), vX a, vI (xs (((i : Int) + 2)).toNat).toInt, vI (xs (((i : Int) + 1)).toNat).toInt, vR 0] (sh, I, L) (ga, gb) ?_
  refine And.intro ⟨rfl, by omega, by omega⟩ ?_
  refine hK.1 299 [some (vX a), some (vR 0), some (vR 44), some (vI (i : Int))] [vI (xs (((i : Int) + 3)).toNat).toInt, vI (xs (((i : Int) + 2)).toNat).toInt, vI (xs (((i : Int) + 1)).toNat).toInt, vR 0] (sh, I, L) (ga, gb) ?_
  refine And.intro ⟨sk_0 hs, Nat.le_of_ble_eq_true rfl, Nat.le_of_ble_eq_true rfl, by show ga + 1 ≤ 600000; omega, by show gb + 2 ≤ 7302250; omega⟩ ?_
  refine (pr_plan (L := L) hs R (on_r (xs (((i : Int) + 1)).toNat)) (on_r (xs (((i : Int) + 2)).toNat)) (on_r (xs (((i : Int) + 3)).toNat))) _ (fun x mm nx => ?_)
  obtain ⟨sh1, J1, L1⟩ := mm
  refine hK.1 302 [some (vX a), some (vR 0), some (vR 44), some (vI (i : Int))] [vI x] (sh1, J1, L1) (ga + 1, gb + 2) ?_
  refine hK.1 303 [some (vX a), some (vR 0), some (vR 44), some (vI (i : Int))] [vR 44, vI x] (sh1, J1, L1) (ga + 1, gb + 2) ?_
  refine hK.1 304 [some (vX a), some (vR 0), some (vR 44), some (vI (i : Int))] [vX a, vR 44, vI x] (sh1, J1, L1) (ga + 1, gb + 2) ?_
  refine hK.1 305 [some (vX a), some (vR 0), some (vR 44), some (vI (i : Int))] [vI (i : Int), vX a, vR 44, vI x] (sh1, J1, L1) (ga + 1, gb + 2) ?_
  refine hK.1 306 [some (vX a), some (vR 0), some (vR 44), some (vI (i : Int))] [vI 1, vI (i : Int), vX a, vR 44, vI x] (sh1, J1, L1) (ga + 1, gb + 2) ?_
  refine hK.1 307 [some (vX a), some (vR 0), some (vR 44), some (vI (i : Int))] [vI ((i : Int) + 1), vX a, vR 44, vI x] (sh1, J1, L1) (ga + 1, gb + 2) ?_
  refine And.intro ⟨rfl, by omega, by omega⟩ ?_
  refine hK.1 308 [some (vX a), some (vR 0), some (vR 44), some (vI (i : Int))] [vI (xs (((i : Int) + 1)).toNat).toInt, vR 44, vI x] (sh1, J1, L1) (ga + 1, gb + 2) ?_
  refine hK.1 309 [some (vX a), some (vR 0), some (vR 44), some (vI (i : Int))] [vX a, vI (xs (((i : Int) + 1)).toNat).toInt, vR 44, vI x] (sh1, J1, L1) (ga + 1, gb + 2) ?_
  refine hK.1 310 [some (vX a), some (vR 0), some (vR 44), some (vI (i : Int))] [vI (i : Int), vX a, vI (xs (((i : Int) + 1)).toNat).toInt, vR 44, vI x] (sh1, J1, L1) (ga + 1, gb + 2) ?_
  refine hK.1 311 [some (vX a), some (vR 0), some (vR 44), some (vI (i : Int))] [vI 2, vI (i : Int), vX a, vI (xs (((i : Int) + 1)).toNat).toInt, vR 44, vI x] (sh1, J1, L1) (ga + 1, gb + 2) ?_
  refine hK.1 312 [some (vX a), some (vR 0), some (vR 44), some (vI (i : Int))] [vI ((i : Int) + 2), vX a, vI (xs (((i : Int) + 1)).toNat).toInt, vR 44, vI x] (sh1, J1, L1) (ga + 1, gb + 2) ?_
  refine And.intro ⟨rfl, by omega, by omega⟩ ?_
  refine hK.1 313 [some (vX a), some (vR 0), some (vR 44), some (vI (i : Int))] [vI (xs (((i : Int) + 2)).toNat).toInt, vI (xs (((i : Int) + 1)).toNat).toInt, vR 44, vI x] (sh1, J1, L1) (ga + 1, gb + 2) ?_
  refine hK.1 314 [some (vX a), some (vR 0), some (vR 44), some (vI (i : Int))] [vX a, vI (xs (((i : Int) + 2)).toNat).toInt, vI (xs (((i : Int) + 1)).toNat).toInt, vR 44, vI x] (sh1, J1, L1) (ga + 1, gb + 2) ?_
  refine hK.1 315 [some (vX a), some (vR 0), some (vR 44), some (vI (i : Int))] [vI (i : Int), vX a, vI (xs (((i : Int) + 2)).toNat).toInt, vI (xs (((i : Int) + 1)).toNat).toInt, vR 44, vI x] (sh1, J1, L1) (ga + 1, gb + 2) ?_
  refine hK.1 316 [some (vX a), some (vR 0), some (vR 44), some (vI (i : Int))] [vI 3, vI (i : Int), vX a, vI (xs (((i : Int) + 2)).toNat).toInt, vI (xs (((i : Int) + 1)).toNat).toInt, vR 44, vI x] (sh1, J1, L1) (ga + 1, gb + 2) ?_
  refine hK.1 317 [some (vX a), some (vR 0), some (vR 44), some (vI (i : Int))] [vI ((i : Int) + 3), vX a, vI (xs (((i : Int) + 2)).toNat).toInt, vI (xs (((i : Int) + 1)).toNat).toInt, vR 44, vI x] (sh1, J1, L1) (ga + 1, gb + 2) ?_
  refine And.intro ⟨rfl, by omega, by omega⟩ ?_
  refine hK.1 318 [some (vX a), some (vR 0), some (vR 44), some (vI (i : Int))] [vI (xs (((i : Int) + 3)).toNat).toInt, vI (xs (((i : Int) + 2)).toNat).toInt, vI (xs (((i : Int) + 1)).toNat).toInt, vR 44, vI x] (sh1, J1, L1) (ga + 1, gb + 2) ?_
  refine And.intro ⟨sk_44 nx.1, Nat.le_of_ble_eq_true rfl, Nat.le_of_ble_eq_true rfl, by show ga + 1 + 0 ≤ 600000; omega, by show gb + 2 + 0 ≤ 7302250; omega⟩ (nx.2 _ (fun sh2 Z L2 hs2 R2 => ?_))
  refine hK.1 321 [some (vX a), some (vR 0), some (vR 44), some (vI (i : Int))] [vI x, vI x] (sh2, Z, L2) (ga + 1 + 0, gb + 2 + 0) ?_
  exact And.intro rfl (k _ _ _ _ _ (by omega) (by omega) hs2 R2)
set_option maxRecDepth 4000 in
theorem lc_6 (hK : oCl (tb_L a n xs) Q K) {sh : oS} {I : Nat → Nat → Int} {L : Nat → Nat → Int64} (hs : Sh sh) {b : Nat} (R : Rel sh I b 0) (hb : b ≤ 10000) {i ga gb : Nat} (hi : i + 5 ≤ n) (g1 : ga + 4 ≤ 600000) (g2 : gb + 27 ≤ 7302250) (k : ∀ sh2 Z L2 ga2 gb2, ga2 ≤ ga + 4 → gb2 ≤ gb + 27 → Sh sh2 → Rel sh2 Z (b + 1) 0 → K 1149 [some (vX a), some (vR 0), some (vR 44), some (vI (i : Int))] [] (sh2, Z, L2) (ga2, gb2)) : K 326 [some (vX a), some (vR 0), some (vR 44), some (vI (i : Int))] [] (sh, I, L) (ga, gb) := by
  refine hK.1 326 [some (vX a), some (vR 0), some (vR 44), some (vI (i : Int))] [] (sh, I, L) (ga, gb) ?_
  refine hK.1 327 [some (vX a), some (vR 0), some (vR 44), some (vI (i : Int))] [vR 0] (sh, I, L) (ga, gb) ?_
  refine And.intro ⟨sk_0 hs, Nat.le_of_ble_eq_true rfl, Nat.le_of_ble_eq_true rfl, by show ga + 4 ≤ 600000; omega, by show gb + 24 ≤ 7302250; omega⟩ ?_
  refine (pr_tell (L := L) hs R) _ (fun x mm nx => ?_)
  obtain ⟨sh1, J1, L1⟩ := mm
  refine hK.1 330 [some (vX a), some (vR 0), some (vR 44), some (vI (i : Int))] [vI x] (sh1, J1, L1) (ga + 4, gb + 24) ?_
  refine hK.1 331 [some (vX a), some (vR 0), some (vR 44), some (vI (i : Int))] [vR 44, vI x] (sh1, J1, L1) (ga + 4, gb + 24) ?_
  refine And.intro ⟨sk_44 nx.1, Nat.le_of_ble_eq_true rfl, Nat.le_of_ble_eq_true rfl, by show ga + 4 + 0 ≤ 600000; omega, by show gb + 24 + 0 ≤ 7302250; omega⟩ (nx.2 _ (fun sh2 Z L2 hs2 R2 => ?_))
  refine hK.1 334 [some (vX a), some (vR 0), some (vR 44), some (vI (i : Int))] [vI x, vI x] (sh2, Z, L2) (ga + 4 + 0, gb + 24 + 0) ?_
  exact And.intro rfl (k _ _ _ _ _ (by omega) (by omega) hs2 R2)
set_option maxRecDepth 4000 in
theorem lc_7 (hK : oCl (tb_L a n xs) Q K) {sh : oS} {I : Nat → Nat → Int} {L : Nat → Nat → Int64} (hs : Sh sh) {b : Nat} (R : Rel sh I b 0) (hb : b ≤ 10000) {i ga gb : Nat} (hi : i + 5 ≤ n) (g1 : ga + 4 ≤ 600000) (g2 : gb + 27 ≤ 7302250) (k : ∀ sh2 Z L2 ga2 gb2, ga2 ≤ ga + 4 → gb2 ≤ gb + 27 → Sh sh2 → Rel sh2 Z (b + 1) 0 → K 1149 [some (vX a), some (vR 0), some (vR 44), some (vI (i : Int))] [] (sh2, Z, L2) (ga2, gb2)) : K 339 [some (vX a), some (vR 0), some (vR 44), some (vI (i : Int))] [] (sh, I, L) (ga, gb) := by
  refine hK.1 339 [some (vX a), some (vR 0), some (vR 44), some (vI (i : Int))] [] (sh, I, L) (ga, gb) ?_
  refine hK.1 340 [some (vX a), some (vR 0), some (vR 44), some (vI (i : Int))] [vR 0] (sh, I, L) (ga, gb) ?_
  refine hK.1 341 [some (vX a), some (vR 0), some (vR 44), some (vI (i : Int))] [vX a, vR 0] (sh, I, L) (ga, gb) ?_
  refine hK.1 342 [some (vX a), some (vR 0), some (vR 44), some (vI (i : Int))] [vI (i : Int), vX a, vR 0] (sh, I, L) (ga, gb) ?_
  refine hK.1 343 [some (vX a), some (vR 0), some (vR 44), some (vI (i : Int))] [vI 1, vI (i : Int), vX a, vR 0] (sh, I, L) (ga, gb) ?_
  refine hK.1 344 [some (vX a), some (vR 0), some (vR 44), some (vI (i : Int))] [vI ((i : Int) + 1), vX a, vR 0] (sh, I, L) (ga, gb) ?_
  refine And.intro ⟨rfl, by omega, by omega⟩ ?_
  refine hK.1 345 [some (vX a), some (vR 0), some (vR 44), some (vI (i : Int))] [vI (xs (((i : Int) + 1)).toNat).toInt, vR 0] (sh, I, L) (ga, gb) ?_
  refine hK.1 346 [some (vX a), some (vR 0), some (vR 44), some (vI (i : Int))] [vX a, vI (xs (((i : Int) + 1)).toNat).toInt, vR 0] (sh, I, L) (ga, gb) ?_
  refine hK.1 347 [some (vX a), some (vR 0), some (vR 44), some (vI (i : Int))] [vI (i : Int), vX a, vI (xs (((i : Int) + 1)).toNat).toInt, vR 0] (sh, I, L) (ga, gb) ?_
  refine hK.1 348 [some (vX a), some (vR 0), some (vR 44), some (vI (i : Int))] [vI 2, vI (i : Int), vX a, vI (xs (((i : Int) + 1)).toNat).toInt, vR 0] (sh, I, L) (ga, gb) ?_
  refine hK.1 349 [some (vX a), some (vR 0), some (vR 44), some (vI (i : Int))] [vI ((i : Int) + 2), vX a, vI (xs (((i : Int) + 1)).toNat).toInt, vR 0] (sh, I, L) (ga, gb) ?_
  refine And.intro ⟨rfl, by omega, by omega⟩ ?_
  refine hK.1 350 [some (vX a), some (vR 0), some (vR 44), some (vI (i : Int))] [vI (xs (((i : Int) + 2)).toNat).toInt, vI (xs (((i : Int) + 1)).toNat).toInt, vR 0] (sh, I, L) (ga, gb) ?_
  refine And.intro ⟨sk_0 hs, Nat.le_of_ble_eq_true rfl, Nat.le_of_ble_eq_true rfl, by show ga + 0 ≤ 600000; omega, by show gb + 0 ≤ 7302250; omega⟩ ?_
  refine (pr_as (L := L) hs R (on_r (xs (((i : Int) + 1)).toNat)) (on_r (xs (((i : Int) + 2)).toNat))) _ (fun x mm nx => ?_)
  obtain ⟨sh1, J1, L1⟩ := mm
  refine hK.1 353 [some (vX a), some (vR 0), some (vR 44), some (vI (i : Int))] [vI x] (sh1, J1, L1) (ga + 0, gb + 0) ?_
  refine hK.1 354 [some (vX a), some (vR 0), some (vR 44), some (vI (i : Int))] [vR 44, vI x] (sh1, J1, L1) (ga + 0, gb + 0) ?_
  refine hK.1 355 [some (vX a), some (vR 0), some (vR 44), some (vI (i : Int))] [vX a, vR 44, vI x] (sh1, J1, L1) (ga + 0, gb + 0) ?_
  refine hK.1 356 [some (vX a), some (vR 0), some (vR 44), some (vI (i : Int))] [vI (i : Int), vX a, vR 44, vI x] (sh1, J1, L1) (ga + 0, gb + 0) ?_
  refine hK.1 357 [some (vX a), some (vR 0), some (vR 44), some (vI (i : Int))] [vI 1, vI (i : Int), vX a, vR 44, vI x] (sh1, J1, L1) (ga + 0, gb + 0) ?_
  refine hK.1 358 [some (vX a), some (vR 0), some (vR 44), some (vI (i : Int))] [vI ((i : Int) + 1), vX a, vR 44, vI x] (sh1, J1, L1) (ga + 0, gb + 0) ?_
  refine And.intro ⟨rfl, by omega, by omega⟩ ?_
  refine hK.1 359 [some (vX a), some (vR 0), some (vR 44), some (vI (i : Int))] [vI (xs (((i : Int) + 1)).toNat).toInt, vR 44, vI x] (sh1, J1, L1) (ga + 0, gb + 0) ?_
  refine hK.1 360 [some (vX a), some (vR 0), some (vR 44), some (vI (i : Int))] [vX a, vI (xs (((i : Int) + 1)).toNat).toInt, vR 44, vI x] (sh1, J1, L1) (ga + 0, gb + 0) ?_
  refine hK.1 361 [some (vX a), some (vR 0), some (vR 44), some (vI (i : Int))] [vI (i : Int), vX a, vI (xs (((i : Int) + 1)).toNat).toInt, vR 44, vI x] (sh1, J1, L1) (ga + 0, gb + 0) ?_
  refine hK.1 362 [some (vX a), some (vR 0), some (vR 44), some (vI (i : Int))] [vI 2, vI (i : Int), vX a, vI (xs (((i : Int) + 1)).toNat).toInt, vR 44, vI x] (sh1, J1, L1) (ga + 0, gb + 0) ?_
  refine hK.1 363 [some (vX a), some (vR 0), some (vR 44), some (vI (i : Int))] [vI ((i : Int) + 2), vX a, vI (xs (((i : Int) + 1)).toNat).toInt, vR 44, vI x] (sh1, J1, L1) (ga + 0, gb + 0) ?_
  refine And.intro ⟨rfl, by omega, by omega⟩ ?_
  refine hK.1 364 [some (vX a), some (vR 0), some (vR 44), some (vI (i : Int))] [vI (xs (((i : Int) + 2)).toNat).toInt, vI (xs (((i : Int) + 1)).toNat).toInt, vR 44, vI x] (sh1, J1, L1) (ga + 0, gb + 0) ?_
  refine And.intro ⟨sk_44 nx.1, Nat.le_of_ble_eq_true rfl, Nat.le_of_ble_eq_true rfl, by show ga + 0 + 0 ≤ 600000; omega, by show gb + 0 + 0 ≤ 7302250; omega⟩ (nx.2 _ (fun sh2 Z L2 hs2 R2 => ?_))
  refine hK.1 367 [some (vX a), some (vR 0), some (vR 44), some (vI (i : Int))] [vI x, vI x] (sh2, Z, L2) (ga + 0 + 0, gb + 0 + 0) ?_
  exact And.intro rfl (k _ _ _ _ _ (by omega) (by omega) hs2 R2)
set_option maxRecDepth 4000 in
theorem lc_8 (hK : oCl (tb_L a n xs) Q K) {sh : oS} {I : Nat → Nat → Int} {L : Nat → Nat → Int64} (hs : Sh sh) {b : Nat} (R : Rel sh I b 0) (hb : b ≤ 10000) {i ga gb : Nat} (hi : i + 5 ≤ n) (g1 : ga + 4 ≤ 600000) (g2 : gb + 27 ≤ 7302250) (k : ∀ sh2 Z L2 ga2 gb2, ga2 ≤ ga + 4 → gb2 ≤ gb + 27 → Sh sh2 → Rel sh2 Z (b + 1) 0 → K 1149 [some (vX a), some (vR 0), some (vR 44), some (vI (i : Int))] [] (sh2, Z, L2) (ga2, gb2)) : K 372 [some (vX a), some (vR 0), some (vR 44), some (vI (i : Int))] [] (sh, I, L) (ga, gb) := by
  refine hK.1 372 [some (vX a), some (vR 0), some (vR 44), some (vI (i : Int))] [] (sh, I, L) (ga, gb) ?_
  refine hK.1 373 [some (vX a), some (vR 0), some (vR 44), some (vI (i : Int))] [vR 0] (sh, I, L) (ga, gb) ?_
  refine hK.1 374 [some (vX a), some (vR 0), some (vR 44), some (vI (i : Int))] [vX a, vR 0] (sh, I, L) (ga, gb) ?_
  refine hK.1 375 [some (vX a), some (vR 0), some (vR 44), some (vI (i : Int))] [vI (i : Int), vX a, vR 0] (sh, I, L) (ga, gb) ?_
  refine hK.1 376 [some (vX a), some (vR 0), some (vR 44), some (vI (i : Int))] [vI 1, vI (i : Int), vX a, vR 0] (sh, I, L) (ga, gb) ?_
  refine hK.1 377 [some (vX a), some (vR 0), some (vR 44), some (vI (i : Int))] [vI ((i : Int) + 1), vX a, vR 0] (sh, I, L) (ga, gb) ?_
  refine And.intro ⟨rfl, by omega, by omega⟩ ?_
  refine hK.1 378 [some (vX a), some (vR 0), some (vR 44), some (vI (i : Int))] [vI (xs (((i : Int) + 1)).toNat).toInt, vR 0] (sh, I, L) (ga, gb) ?_
  refine And.intro ⟨sk_0 hs, Nat.le_of_ble_eq_true rfl, Nat.le_of_ble_eq_true rfl, by show ga + 0 ≤ 600000; omega, by show gb + 0 ≤ 7302250; omega⟩ ?_
  refine (pr_landTold (L := L) hs R (on_r (xs (((i : Int) + 1)).toNat))) _ (fun x mm nx => ?_)
  obtain ⟨sh1, J1, L1⟩ := mm
  refine hK.1 381 [some (vX a), some (vR 0), some (vR 44), some (vI (i : Int))] [vI x] (sh1, J1, L1) (ga + 0, gb + 0) ?_
  refine hK.1 382 [some (vX a), some (vR 0), some (vR 44), some (vI (i : Int))] [vR 44, vI x] (sh1, J1, L1) (ga + 0, gb + 0) ?_
  refine hK.1 383 [some (vX a), some (vR 0), some (vR 44), some (vI (i : Int))] [vX a, vR 44, vI x] (sh1, J1, L1) (ga + 0, gb + 0) ?_
  refine hK.1 384 [some (vX a), some (vR 0), some (vR 44), some (vI (i : Int))] [vI (i : Int), vX a, vR 44, vI x] (sh1, J1, L1) (ga + 0, gb + 0) ?_
  refine hK.1 385 [some (vX a), some (vR 0), some (vR 44), some (vI (i : Int))] [vI 1, vI (i : Int), vX a, vR 44, vI x] (sh1, J1, L1) (ga + 0, gb + 0) ?_
  refine hK.1 386 [some (vX a), some (vR 0), some (vR 44), some (vI (i : Int))] [vI ((i : Int) + 1), vX a, vR 44, vI x] (sh1, J1, L1) (ga + 0, gb + 0) ?_
  refine And.intro ⟨rfl, by omega, by omega⟩ ?_
  refine hK.1 387 [some (vX a), some (vR 0), some (vR 44), some (vI (i : Int))] [vI (xs (((i : Int) + 1)).toNat).toInt, vR 44, vI x] (sh1, J1, L1) (ga + 0, gb + 0) ?_
  refine And.intro ⟨sk_44 nx.1, Nat.le_of_ble_eq_true rfl, Nat.le_of_ble_eq_true rfl, by show ga + 0 + 0 ≤ 600000; omega, by show gb + 0 + 0 ≤ 7302250; omega⟩ (nx.2 _ (fun sh2 Z L2 hs2 R2 => ?_))
  refine hK.1 390 [some (vX a), some (vR 0), some (vR 44), some (vI (i : Int))] [vI x, vI x] (sh2, Z, L2) (ga + 0 + 0, gb + 0 + 0) ?_
  exact And.intro rfl (k _ _ _ _ _ (by omega) (by omega) hs2 R2)
set_option maxRecDepth 4000 in
theorem lc_9 (hK : oCl (tb_L a n xs) Q K) {sh : oS} {I : Nat → Nat → Int} {L : Nat → Nat → Int64} (hs : Sh sh) {b : Nat} (R : Rel sh I b 0) (hb : b ≤ 10000) {i ga gb : Nat} (hi : i + 5 ≤ n) (g1 : ga + 4 ≤ 600000) (g2 : gb + 27 ≤ 7302250) (k : ∀ sh2 Z L2 ga2 gb2, ga2 ≤ ga + 4 → gb2 ≤ gb + 27 → Sh sh2 → Rel sh2 Z (b + 1) 0 → K 1149 [some (vX a), some (vR 0), some (vR 44), some (vI (i : Int))] [] (sh2, Z, L2) (ga2, gb2)) : K 395 [some (vX a), some (vR 0), some (vR 44), some (vI (i : Int))] [] (sh, I, L) (ga, gb) := by
  refine hK.1 395 [some (vX a), some (vR 0), some (vR 44), some (vI (i : Int))] [] (sh, I, L) (ga, gb) ?_
  refine hK.1 396 [some (vX a), some (vR 0), some (vR 44), some (vI (i : Int))] [vR 0] (sh, I, L) (ga, gb) ?_
  refine hK.1 397 [some (vX a), some (vR 0), some (vR 44), some (vI (i : Int))] [vX a, vR 0] (sh, I, L) (ga, gb) ?_
  refine hK.1 398 [some (vX a), some (vR 0), some (vR 44), some (vI (i : Int))] [vI (i : Int), vX a, vR 0] (sh, I, L) (ga, gb) ?_
  refine hK.1 399 [some (vX a), some (vR 0), some (vR 44), some (vI (i : Int))] [vI 1, vI (i : Int), vX a, vR 0] (sh, I, L) (ga, gb) ?_
  refine hK.1 400 [some (vX a), some (vR 0), some (vR 44), some (vI (i : Int))] [vI ((i : Int) + 1), vX a, vR 0] (sh, I, L) (ga, gb) ?_
  refine And.intro ⟨rfl, by omega, by omega⟩ ?_
  refine hK.1 401 [some (vX a), some (vR 0), some (vR 44), some (vI (i : Int))] [vI (xs (((i : Int) + 1)).toNat).toInt, vR 0] (sh, I, L) (ga, gb) ?_
  refine hK.1 402 [some (vX a), some (vR 0), some (vR 44), some (vI (i : Int))] [vX a, vI (xs (((i : Int) + 1)).toNat).toInt, vR 0] (sh, I, L) (ga, gb) ?_
  refine hK.1 403 [some (vX a), some (vR 0), some (vR 44), some (vI (i : Int))] [vI (i : Int), vX a, vI (xs (((i : Int) + 1)).toNat).toInt, vR 0] (sh, I, L) (ga, gb) ?_
  refine hK.1 404 [some (vX a), some (vR 0), some (vR 44), some (vI (i : Int))] [vI 2, vI (i : Int), vX a, vI (xs (((i : Int) + 1)).toNat).toInt, vR 0] (sh, I, L) (ga, gb) ?_
  refine hK.1 405 [some (vX a), some (vR 0), some (vR 44), some (vI (i : Int))] [vI ((i : Int) + 2), vX a, vI (xs (((i : Int) + 1)).toNat).toInt, vR 0] (sh, I, L) (ga, gb) ?_
  refine And.intro ⟨rfl, by omega, by omega⟩ ?_
  refine hK.1 406 [some (vX a), some (vR 0), some (vR 44), some (vI (i : Int))] [vI (xs (((i : Int) + 2)).toNat).toInt, vI (xs (((i : Int) + 1)).toNat).toInt, vR 0] (sh, I, L) (ga, gb) ?_
  refine And.intro ⟨sk_0 hs, Nat.le_of_ble_eq_true rfl, Nat.le_of_ble_eq_true rfl, by show ga + 0 ≤ 600000; omega, by show gb + 0 ≤ 7302250; omega⟩ ?_
  refine (pr_place (L := L) hs R (on_r (xs (((i : Int) + 1)).toNat)) (on_r (xs (((i : Int) + 2)).toNat))) _ (fun x mm nx => ?_)
  obtain ⟨sh1, J1, L1⟩ := mm
  refine hK.1 409 [some (vX a), some (vR 0), some (vR 44), some (vI (i : Int))] [vI x] (sh1, J1, L1) (ga + 0, gb + 0) ?_
  refine hK.1 410 [some (vX a), some (vR 0), some (vR 44), some (vI (i : Int))] [vR 44, vI x] (sh1, J1, L1) (ga + 0, gb + 0) ?_
  refine hK.1 411 [some (vX a), some (vR 0), some (vR 44), some (vI (i : Int))] [vX a, vR 44, vI x] (sh1, J1, L1) (ga + 0, gb + 0) ?_
  refine hK.1 412 [some (vX a), some (vR 0), some (vR 44), some (vI (i : Int))] [vI (i : Int), vX a, vR 44, vI x] (sh1, J1, L1) (ga + 0, gb + 0) ?_
  refine hK.1 413 [some (vX a), some (vR 0), some (vR 44), some (vI (i : Int))] [vI 1, vI (i : Int), vX a, vR 44, vI x] (sh1, J1, L1) (ga + 0, gb + 0) ?_
  refine hK.1 414 [some (vX a), some (vR 0), some (vR 44), some (vI (i : Int))] [vI ((i : Int) + 1), vX a, vR 44, vI x] (sh1, J1, L1) (ga + 0, gb + 0) ?_
  refine And.intro ⟨rfl, by omega, by omega⟩ ?_
  refine hK.1 415 [some (vX a), some (vR 0), some (vR 44), some (vI (i : Int))] [vI (xs (((i : Int) + 1)).toNat).toInt, vR 44, vI x] (sh1, J1, L1) (ga + 0, gb + 0) ?_
  refine hK.1 416 [some (vX a), some (vR 0), some (vR 44), some (vI (i : Int))] [vX a, vI (xs (((i : Int) + 1)).toNat).toInt, vR 44, vI x] (sh1, J1, L1) (ga + 0, gb + 0) ?_
  refine hK.1 417 [some (vX a), some (vR 0), some (vR 44), some (vI (i : Int))] [vI (i : Int), vX a, vI (xs (((i : Int) + 1)).toNat).toInt, vR 44, vI x] (sh1, J1, L1) (ga + 0, gb + 0) ?_
  refine hK.1 418 [some (vX a), some (vR 0), some (vR 44), some (vI (i : Int))] [vI 2, vI (i : Int), vX a, vI (xs (((i : Int) + 1)).toNat).toInt, vR 44, vI x] (sh1, J1, L1) (ga + 0, gb + 0) ?_
  refine hK.1 419 [some (vX a), some (vR 0), some (vR 44), some (vI (i : Int))] [vI ((i : Int) + 2), vX a, vI (xs (((i : Int) + 1)).toNat).toInt, vR 44, vI x] (sh1, J1, L1) (ga + 0, gb + 0) ?_
  refine And.intro ⟨rfl, by omega, by omega⟩ ?_
  refine hK.1 420 [some (vX a), some (vR 0), some (vR 44), some (vI (i : Int))] [vI (xs (((i : Int) + 2)).toNat).toInt, vI (xs (((i : Int) + 1)).toNat).toInt, vR 44, vI x] (sh1, J1, L1) (ga + 0, gb + 0) ?_
  refine And.intro ⟨sk_44 nx.1, Nat.le_of_ble_eq_true rfl, Nat.le_of_ble_eq_true rfl, by show ga + 0 + 0 ≤ 600000; omega, by show gb + 0 + 0 ≤ 7302250; omega⟩ (nx.2 _ (fun sh2 Z L2 hs2 R2 => ?_))
  refine hK.1 423 [some (vX a), some (vR 0), some (vR 44), some (vI (i : Int))] [vI x, vI x] (sh2, Z, L2) (ga + 0 + 0, gb + 0 + 0) ?_
  exact And.intro rfl (k _ _ _ _ _ (by omega) (by omega) hs2 R2)
set_option maxRecDepth 4000 in
theorem lc_10 (hK : oCl (tb_L a n xs) Q K) {sh : oS} {I : Nat → Nat → Int} {L : Nat → Nat → Int64} (hs : Sh sh) {b : Nat} (R : Rel sh I b 0) (hb : b ≤ 10000) {i ga gb : Nat} (hi : i + 5 ≤ n) (g1 : ga + 4 ≤ 600000) (g2 : gb + 27 ≤ 7302250) (k : ∀ sh2 Z L2 ga2 gb2, ga2 ≤ ga + 4 → gb2 ≤ gb + 27 → Sh sh2 → Rel sh2 Z (b + 1) 0 → K 1149 [some (vX a), some (vR 0), some (vR 44), some (vI (i : Int))] [] (sh2, Z, L2) (ga2, gb2)) : K 428 [some (vX a), some (vR 0), some (vR 44), some (vI (i : Int))] [] (sh, I, L) (ga, gb) := by
  refine hK.1 428 [some (vX a), some (vR 0), some (vR 44), some (vI (i : Int))] [] (sh, I, L) (ga, gb) ?_
  refine hK.1 429 [some (vX a), some (vR 0), some (vR 44), some (vI (i : Int))] [vR 0] (sh, I, L) (ga, gb) ?_
  refine hK.1 430 [some (vX a), some (vR 0), some (vR 44), some (vI (i : Int))] [vX a, vR 0] (sh, I, L) (ga, gb) ?_
  refine hK.1 431 [some (vX a), some (vR 0), some (vR 44), some (vI (i : Int))] [vI (i : Int), vX a, vR 0] (sh, I, L) (ga, gb) ?_
  refine hK.1 432 [some (vX a), some (vR 0), some (vR 44), some (vI (i : Int))] [vI 1, vI (i : Int), vX a, vR 0] (sh, I, L) (ga, gb) ?_
  refine hK.1 433 [some (vX a), some (vR 0), some (vR 44), some (vI (i : Int))] [vI ((i : Int) + 1), vX a, vR 0] (sh, I, L) (ga, gb) ?_
  refine And.intro ⟨rfl, by omega, by omega⟩ ?_
  refine hK.1 434 [some (vX a), some (vR 0), some (vR 44), some (vI (i : Int))] [vI (xs (((i : Int) + 1)).toNat).toInt, vR 0] (sh, I, L) (ga, gb) ?_
  refine hK.1 435 [some (vX a), some (vR 0), some (vR 44), some (vI (i : Int))] [vX a, vI (xs (((i : Int) + 1)).toNat).toInt, vR 0] (sh, I, L) (ga, gb) ?_
  refine hK.1 436 [some (vX a), some (vR 0), some (vR 44), some (vI (i : Int))] [vI (i : Int), vX a, vI (xs (((i : Int) + 1)).toNat).toInt, vR 0] (sh, I, L) (ga, gb) ?_
  refine hK.1 437 [some (vX a), some (vR 0), some (vR 44), some (vI (i : Int))] [vI 2, vI (i : Int), vX a, vI (xs (((i : Int) + 1)).toNat).toInt, vR 0] (sh, I, L) (ga, gb) ?_
  refine hK.1 438 [some (vX a), some (vR 0), some (vR 44), some (vI (i : Int))] [vI ((i : Int) + 2), vX a, vI (xs (((i : Int) + 1)).toNat).toInt, vR 0] (sh, I, L) (ga, gb) ?_
  refine And.intro ⟨rfl, by omega, by omega⟩ ?_
  refine hK.1 439 [some (vX a), some (vR 0), some (vR 44), some (vI (i : Int))] [vI (xs (((i : Int) + 2)).toNat).toInt, vI (xs (((i : Int) + 1)).toNat).toInt, vR 0] (sh, I, L) (ga, gb) ?_
  refine And.intro ⟨sk_0 hs, Nat.le_of_ble_eq_true rfl, Nat.le_of_ble_eq_true rfl, by show ga + 0 ≤ 600000; omega, by show gb + 0 ≤ 7302250; omega⟩ ?_
  refine (pr_flour (L := L) hs R (on_r (xs (((i : Int) + 1)).toNat)) (on_r (xs (((i : Int) + 2)).toNat))) _ (fun x mm nx => ?_)
  obtain ⟨sh1, J1, L1⟩ := mm
  refine hK.1 442 [some (vX a), some (vR 0), some (vR 44), some (vI (i : Int))] [vI x] (sh1, J1, L1) (ga + 0, gb + 0) ?_
  refine hK.1 443 [some (vX a), some (vR 0), some (vR 44), some (vI (i : Int))] [vR 44, vI x] (sh1, J1, L1) (ga + 0, gb + 0) ?_
  refine hK.1 444 [some (vX a), some (vR 0), some (vR 44), some (vI (i : Int))] [vX a, vR 44, vI x] (sh1, J1, L1) (ga + 0, gb + 0) ?_
  refine hK.1 445 [some (vX a), some (vR 0), some (vR 44), some (vI (i : Int))] [vI (i : Int), vX a, vR 44, vI x] (sh1, J1, L1) (ga + 0, gb + 0) ?_
  refine hK.1 446 [some (vX a), some (vR 0), some (vR 44), some (vI (i : Int))] [vI 1, vI (i : Int), vX a, vR 44, vI x] (sh1, J1, L1) (ga + 0, gb + 0) ?_
  refine hK.1 447 [some (vX a), some (vR 0), some (vR 44), some (vI (i : Int))] [vI ((i : Int) + 1), vX a, vR 44, vI x] (sh1, J1, L1) (ga + 0, gb + 0) ?_
  refine And.intro ⟨rfl, by omega, by omega⟩ ?_
  refine hK.1 448 [some (vX a), some (vR 0), some (vR 44), some (vI (i : Int))] [vI (xs (((i : Int) + 1)).toNat).toInt, vR 44, vI x] (sh1, J1, L1) (ga + 0, gb + 0) ?_
  refine hK.1 449 [some (vX a), some (vR 0), some (vR 44), some (vI (i : Int))] [vX a, vI (xs (((i : Int) + 1)).toNat).toInt, vR 44, vI x] (sh1, J1, L1) (ga + 0, gb + 0) ?_
  refine hK.1 450 [some (vX a), some (vR 0), some (vR 44), some (vI (i : Int))] [vI (i : Int), vX a, vI (xs (((i : Int) + 1)).toNat).toInt, vR 44, vI x] (sh1, J1, L1) (ga + 0, gb + 0) ?_
  refine hK.1 451 [some (vX a), some (vR 0), some (vR 44), some (vI (i : Int))] [vI 2, vI (i : Int), vX a, vI (xs (((i : Int) + 1)).toNat).toInt, vR 44, vI x] (sh1, J1, L1) (ga + 0, gb + 0) ?_
  refine hK.1 452 [some (vX a), some (vR 0), some (vR 44), some (vI (i : Int))] [vI ((i : Int) + 2), vX a, vI (xs (((i : Int) + 1)).toNat).toInt, vR 44, vI x] (sh1, J1, L1) (ga + 0, gb + 0) ?_
  refine And.intro ⟨rfl, by omega, by omega⟩ ?_
  refine hK.1 453 [some (vX a), some (vR 0), some (vR 44), some (vI (i : Int))] [vI (xs (((i : Int) + 2)).toNat).toInt, vI (xs (((i : Int) + 1)).toNat).toInt, vR 44, vI x] (sh1, J1, L1) (ga + 0, gb + 0) ?_
  refine And.intro ⟨sk_44 nx.1, Nat.le_of_ble_eq_true rfl, Nat.le_of_ble_eq_true rfl, by show ga + 0 + 0 ≤ 600000; omega, by show gb + 0 + 0 ≤ 7302250; omega⟩ (nx.2 _ (fun sh2 Z L2 hs2 R2 => ?_))
  refine hK.1 456 [some (vX a), some (vR 0), some (vR 44), some (vI (i : Int))] [vI x, vI x] (sh2, Z, L2) (ga + 0 + 0, gb + 0 + 0) ?_
  exact And.intro rfl (k _ _ _ _ _ (by omega) (by omega) hs2 R2)
set_option maxRecDepth 4000 in
theorem lc_11 (hK : oCl (tb_L a n xs) Q K) {sh : oS} {I : Nat → Nat → Int} {L : Nat → Nat → Int64} (hs : Sh sh) {b : Nat} (R : Rel sh I b 0) (hb : b ≤ 10000) {i ga gb : Nat} (hi : i + 5 ≤ n) (g1 : ga + 4 ≤ 600000) (g2 : gb + 27 ≤ 7302250) (k : ∀ sh2 Z L2 ga2 gb2, ga2 ≤ ga + 4 → gb2 ≤ gb + 27 → Sh sh2 → Rel sh2 Z (b + 1) 0 → K 1149 [some (vX a), some (vR 0), some (vR 44), some (vI (i : Int))] [] (sh2, Z, L2) (ga2, gb2)) : K 461 [some (vX a), some (vR 0), some (vR 44), some (vI (i : Int))] [] (sh, I, L) (ga, gb) := by
  refine hK.1 461 [some (vX a), some (vR 0), some (vR 44), some (vI (i : Int))] [] (sh, I, L) (ga, gb) ?_
  refine hK.1 462 [some (vX a), some (vR 0), some (vR 44), some (vI (i : Int))] [vR 0] (sh, I, L) (ga, gb) ?_
  refine hK.1 463 [some (vX a), some (vR 0), some (vR 44), some (vI (i : Int))] [vX a, vR 0] (sh, I, L) (ga, gb) ?_
  refine hK.1 464 [some (vX a), some (vR 0), some (vR 44), some (vI (i : Int))] [vI (i : Int), vX a, vR 0] (sh, I, L) (ga, gb) ?_
  refine hK.1 465 [some (vX a), some (vR 0), some (vR 44), some (vI (i : Int))] [vI 1, vI (i : Int), vX a, vR 0] (sh, I, L) (ga, gb) ?_
  refine hK.1 466 [some (vX a), some (vR 0), some (vR 44), some (vI (i : Int))] [vI ((i : Int) + 1), vX a, vR 0] (sh, I, L) (ga, gb) ?_
  refine And.intro ⟨rfl, by omega, by omega⟩ ?_
  refine hK.1 467 [some (vX a), some (vR 0), some (vR 44), some (vI (i : Int))] [vI (xs (((i : Int) + 1)).toNat).toInt, vR 0] (sh, I, L) (ga, gb) ?_
  refine hK.1 468 [some (vX a), some (vR 0), some (vR 44), some (vI (i : Int))] [vX a, vI (xs (((i : Int) + 1)).toNat).toInt, vR 0] (sh, I, L) (ga, gb) ?_
  refine hK.1 469 [some (vX a), some (vR 0), some (vR 44), some (vI (i : Int))] [vI (i : Int), vX a, vI (xs (((i : Int) + 1)).toNat).toInt, vR 0] (sh, I, L) (ga, gb) ?_
  refine hK.1 470 [some (vX a), some (vR 0), some (vR 44), some (vI (i : Int))] [vI 2, vI (i : Int), vX a, vI (xs (((i : Int) + 1)).toNat).toInt, vR 0] (sh, I, L) (ga, gb) ?_
  refine hK.1 471 [some (vX a), some (vR 0), some (vR 44), some (vI (i : Int))] [vI ((i : Int) + 2), vX a, vI (xs (((i : Int) + 1)).toNat).toInt, vR 0] (sh, I, L) (ga, gb) ?_
  refine And.intro ⟨rfl, by omega, by omega⟩ ?_
  refine hK.1 472 [some (vX a), some (vR 0), some (vR 44), some (vI (i : Int))] [vI (xs (((i : Int) + 2)).toNat).toInt, vI (xs (((i : Int) + 1)).toNat).toInt, vR 0] (sh, I, L) (ga, gb) ?_
  refine And.intro ⟨sk_0 hs, Nat.le_of_ble_eq_true rfl, Nat.le_of_ble_eq_true rfl, by show ga + 0 ≤ 600000; omega, by show gb + 0 ≤ 7302250; omega⟩ ?_
  refine (pr_marchTold (L := L) hs R (on_r (xs (((i : Int) + 1)).toNat)) (on_r (xs (((i : Int) + 2)).toNat))) _ (fun x mm nx => ?_)
  obtain ⟨sh1, J1, L1⟩ := mm
  refine hK.1 475 [some (vX a), some (vR 0), some (vR 44), some (vI (i : Int))] [vI x] (sh1, J1, L1) (ga + 0, gb + 0) ?_
  refine hK.1 476 [some (vX a), some (vR 0), some (vR 44), some (vI (i : Int))] [vR 44, vI x] (sh1, J1, L1) (ga + 0, gb + 0) ?_
  refine hK.1 477 [some (vX a), some (vR 0), some (vR 44), some (vI (i : Int))] [vX a, vR 44, vI x] (sh1, J1, L1) (ga + 0, gb + 0) ?_
  refine hK.1 478 [some (vX a), some (vR 0), some (vR 44), some (vI (i : Int))] [vI (i : Int), vX a, vR 44, vI x] (sh1, J1, L1) (ga + 0, gb + 0) ?_
  refine hK.1 479 [some (vX a), some (vR 0), some (vR 44), some (vI (i : Int))] [vI 1, vI (i : Int), vX a, vR 44, vI x] (sh1, J1, L1) (ga + 0, gb + 0) ?_
  refine hK.1 480 [some (vX a), some (vR 0), some (vR 44), some (vI (i : Int))] [vI ((i : Int) + 1), vX a, vR 44, vI x] (sh1, J1, L1) (ga + 0, gb + 0) ?_
  refine And.intro ⟨rfl, by omega, by omega⟩ ?_
  refine hK.1 481 [some (vX a), some (vR 0), some (vR 44), some (vI (i : Int))] [vI (xs (((i : Int) + 1)).toNat).toInt, vR 44, vI x] (sh1, J1, L1) (ga + 0, gb + 0) ?_
  refine hK.1 482 [some (vX a), some (vR 0), some (vR 44), some (vI (i : Int))] [vX a, vI (xs (((i : Int) + 1)).toNat).toInt, vR 44, vI x] (sh1, J1, L1) (ga + 0, gb + 0) ?_
  refine hK.1 483 [some (vX a), some (vR 0), some (vR 44), some (vI (i : Int))] [vI (i : Int), vX a, vI (xs (((i : Int) + 1)).toNat).toInt, vR 44, vI x] (sh1, J1, L1) (ga + 0, gb + 0) ?_
  refine hK.1 484 [some (vX a), some (vR 0), some (vR 44), some (vI (i : Int))] [vI 2, vI (i : Int), vX a, vI (xs (((i : Int) + 1)).toNat).toInt, vR 44, vI x] (sh1, J1, L1) (ga + 0, gb + 0) ?_
  refine hK.1 485 [some (vX a), some (vR 0), some (vR 44), some (vI (i : Int))] [vI ((i : Int) + 2), vX a, vI (xs (((i : Int) + 1)).toNat).toInt, vR 44, vI x] (sh1, J1, L1) (ga + 0, gb + 0) ?_
  refine And.intro ⟨rfl, by omega, by omega⟩ ?_
  refine hK.1 486 [some (vX a), some (vR 0), some (vR 44), some (vI (i : Int))] [vI (xs (((i : Int) + 2)).toNat).toInt, vI (xs (((i : Int) + 1)).toNat).toInt, vR 44, vI x] (sh1, J1, L1) (ga + 0, gb + 0) ?_
  refine And.intro ⟨sk_44 nx.1, Nat.le_of_ble_eq_true rfl, Nat.le_of_ble_eq_true rfl, by show ga + 0 + 0 ≤ 600000; omega, by show gb + 0 + 0 ≤ 7302250; omega⟩ (nx.2 _ (fun sh2 Z L2 hs2 R2 => ?_))
  refine hK.1 489 [some (vX a), some (vR 0), some (vR 44), some (vI (i : Int))] [vI x, vI x] (sh2, Z, L2) (ga + 0 + 0, gb + 0 + 0) ?_
  exact And.intro rfl (k _ _ _ _ _ (by omega) (by omega) hs2 R2)
set_option maxRecDepth 4000 in
theorem lc_12 (hK : oCl (tb_L a n xs) Q K) {sh : oS} {I : Nat → Nat → Int} {L : Nat → Nat → Int64} (hs : Sh sh) {b : Nat} (R : Rel sh I b 0) (hb : b ≤ 10000) {i ga gb : Nat} (hi : i + 5 ≤ n) (g1 : ga + 4 ≤ 600000) (g2 : gb + 27 ≤ 7302250) (k : ∀ sh2 Z L2 ga2 gb2, ga2 ≤ ga + 4 → gb2 ≤ gb + 27 → Sh sh2 → Rel sh2 Z (b + 1) 0 → K 1149 [some (vX a), some (vR 0), some (vR 44), some (vI (i : Int))] [] (sh2, Z, L2) (ga2, gb2)) : K 494 [some (vX a), some (vR 0), some (vR 44), some (vI (i : Int))] [] (sh, I, L) (ga, gb) := by
  refine hK.1 494 [some (vX a), some (vR 0), some (vR 44), some (vI (i : Int))] [] (sh, I, L) (ga, gb) ?_
  refine hK.1 495 [some (vX a), some (vR 0), some (vR 44), some (vI (i : Int))] [vR 0] (sh, I, L) (ga, gb) ?_
  refine hK.1 496 [some (vX a), some (vR 0), some (vR 44), some (vI (i : Int))] [vX a, vR 0] (sh, I, L) (ga, gb) ?_
  refine hK.1 497 [some (vX a), some (vR 0), some (vR 44), some (vI (i : Int))] [vI (i : Int), vX a, vR 0] (sh, I, L) (ga, gb) ?_
  refine hK.1 498 [some (vX a), some (vR 0), some (vR 44), some (vI (i : Int))] [vI 1, vI (i : Int), vX a, vR 0] (sh, I, L) (ga, gb) ?_
  refine hK.1 499 [some (vX a), some (vR 0), some (vR 44), some (vI (i : Int))] [vI ((i : Int) + 1), vX a, vR 0] (sh, I, L) (ga, gb) ?_
  refine And.intro ⟨rfl, by omega, by omega⟩ ?_
  refine hK.1 500 [some (vX a), some (vR 0), some (vR 44), some (vI (i : Int))] [vI (xs (((i : Int) + 1)).toNat).toInt, vR 0] (sh, I, L) (ga, gb) ?_
  refine hK.1 501 [some (vX a), some (vR 0), some (vR 44), some (vI (i : Int))] [vX a, vI (xs (((i : Int) + 1)).toNat).toInt, vR 0] (sh, I, L) (ga, gb) ?_
  refine hK.1 502 [some (vX a), some (vR 0), some (vR 44), some (vI (i : Int))] [vI (i : Int), vX a, vI (xs (((i : Int) + 1)).toNat).toInt, vR 0] (sh, I, L) (ga, gb) ?_
  refine hK.1 503 [some (vX a), some (vR 0), some (vR 44), some (vI (i : Int))] [vI 2, vI (i : Int), vX a, vI (xs (((i : Int) + 1)).toNat).toInt, vR 0] (sh, I, L) (ga, gb) ?_
  refine hK.1 504 [some (vX a), some (vR 0), some (vR 44), some (vI (i : Int))] [vI ((i : Int) + 2), vX a, vI (xs (((i : Int) + 1)).toNat).toInt, vR 0] (sh, I, L) (ga, gb) ?_
  refine And.intro ⟨rfl, by omega, by omega⟩ ?_
  refine hK.1 505 [some (vX a), some (vR 0), some (vR 44), some (vI (i : Int))] [vI (xs (((i : Int) + 2)).toNat).toInt, vI (xs (((i : Int) + 1)).toNat).toInt, vR 0] (sh, I, L) (ga, gb) ?_
  refine hK.1 506 [some (vX a), some (vR 0), some (vR 44), some (vI (i : Int))] [vX a, vI (xs (((i : Int) + 2)).toNat).toInt, vI (xs (((i : Int) + 1)).toNat).toInt, vR 0] (sh, I, L) (ga, gb) ?_
  refine hK.1 507 [some (vX a), some (vR 0), some (vR 44), some (vI (i : Int))] [vI (i : Int), vX a, vI (xs (((i : Int) + 2)).toNat).toInt, vI (xs (((i : Int) + 1)).toNat).toInt, vR 0] (sh, I, L) (ga, gb) ?_
  refine hK.1 508 [some (vX a), some (vR 0), some (vR 44), some (vI (i : Int))] [vI 3, vI (i : Int), vX a, vI (xs (((i : Int) + 2)).toNat).toInt, vI (xs (((i : Int) + 1)).toNat).toInt, vR 0] (sh, I, L) (ga, gb) ?_
  refine hK.1 509 [some (vX a), some (vR 0), some (vR 44), some (vI (i : Int))] [vI ((i : Int) + 3), vX a, vI (xs (((i : Int) + 2)).toNat).toInt, vI (xs (((i : Int) + 1)).toNat).toInt, vR 0] (sh, I, L) (ga, gb) ?_
  refine And.intro ⟨rfl, by omega, by omega⟩ ?_
  refine hK.1 510 [some (vX a), some (vR 0), some (vR 44), some (vI (i : Int))] [vI (xs (((i : Int) + 3)).toNat).toInt, vI (xs (((i : Int) + 2)).toNat).toInt, vI (xs (((i : Int) + 1)).toNat).toInt, vR 0] (sh, I, L) (ga, gb) ?_
  refine And.intro ⟨sk_0 hs, Nat.le_of_ble_eq_true rfl, Nat.le_of_ble_eq_true rfl, by show ga + 0 ≤ 600000; omega, by show gb + 0 ≤ 7302250; omega⟩ ?_
  refine (pr_at (L := L) hs R (on_r (xs (((i : Int) + 1)).toNat)) (on_r (xs (((i : Int) + 2)).toNat)) (on_r (xs (((i : Int) + 3)).toNat))) _ (fun x mm nx => ?_)
  obtain ⟨sh1, J1, L1⟩ := mm
  refine hK.1 513 [some (vX a), some (vR 0), some (vR 44), some (vI (i : Int))] [vI x] (sh1, J1, L1) (ga + 0, gb + 0) ?_
  refine hK.1 514 [some (vX a), some (vR 0), some (vR 44), some (vI (i : Int))] [vR 44, vI x] (sh1, J1, L1) (ga + 0, gb + 0) ?_
  refine hK.1 515 [some (vX a), some (vR 0), some (vR 44), some (vI (i : Int))] [vX a, vR 44, vI x] (sh1, J1, L1) (ga + 0, gb + 0) ?_
  refine hK.1 516 [some (vX a), some (vR 0), some (vR 44), some (vI (i : Int))] [vI (i : Int), vX a, vR 44, vI x] (sh1, J1, L1) (ga + 0, gb + 0) ?_
  refine hK.1 517 [some (vX a), some (vR 0), some (vR 44), some (vI (i : Int))] [vI 1, vI (i : Int), vX a, vR 44, vI x] (sh1, J1, L1) (ga + 0, gb + 0) ?_
  refine hK.1 518 [some (vX a), some (vR 0), some (vR 44), some (vI (i : Int))] [vI ((i : Int) + 1), vX a, vR 44, vI x] (sh1, J1, L1) (ga + 0, gb + 0) ?_
  refine And.intro ⟨rfl, by omega, by omega⟩ ?_
  refine hK.1 519 [some (vX a), some (vR 0), some (vR 44), some (vI (i : Int))] [vI (xs (((i : Int) + 1)).toNat).toInt, vR 44, vI x] (sh1, J1, L1) (ga + 0, gb + 0) ?_
  refine hK.1 520 [some (vX a), some (vR 0), some (vR 44), some (vI (i : Int))] [vX a, vI (xs (((i : Int) + 1)).toNat).toInt, vR 44, vI x] (sh1, J1, L1) (ga + 0, gb + 0) ?_
  refine hK.1 521 [some (vX a), some (vR 0), some (vR 44), some (vI (i : Int))] [vI (i : Int), vX a, vI (xs (((i : Int) + 1)).toNat).toInt, vR 44, vI x] (sh1, J1, L1) (ga + 0, gb + 0) ?_
  refine hK.1 522 [some (vX a), some (vR 0), some (vR 44), some (vI (i : Int))] [vI 2, vI (i : Int), vX a, vI (xs (((i : Int) + 1)).toNat).toInt, vR 44, vI x] (sh1, J1, L1) (ga + 0, gb + 0) ?_
  refine hK.1 523 [some (vX a), some (vR 0), some (vR 44), some (vI (i : Int))] [vI ((i : Int) + 2), vX a, vI (xs (((i : Int) + 1)).toNat).toInt, vR 44, vI x] (sh1, J1, L1) (ga + 0, gb + 0) ?_
  refine And.intro ⟨rfl, by omega, by omega⟩ ?_
  refine hK.1 524 [some (vX a), some (vR 0), some (vR 44), some (vI (i : Int))] [vI (xs (((i : Int) + 2)).toNat).toInt, vI (xs (((i : Int) + 1)).toNat).toInt, vR 44, vI x] (sh1, J1, L1) (ga + 0, gb + 0) ?_
  refine hK.1 525 [some (vX a), some (vR 0), some (vR 44), some (vI (i : Int))] [vX a, vI (xs (((i : Int) + 2)).toNat).toInt, vI (xs (((i : Int) + 1)).toNat).toInt, vR 44, vI x] (sh1, J1, L1) (ga + 0, gb + 0) ?_
  refine hK.1 526 [some (vX a), some (vR 0), some (vR 44), some (vI (i : Int))] [vI (i : Int), vX a, vI (xs (((i : Int) + 2)).toNat).toInt, vI (xs (((i : Int) + 1)).toNat).toInt, vR 44, vI x] (sh1, J1, L1) (ga + 0, gb + 0) ?_
  refine hK.1 527 [some (vX a), some (vR 0), some (vR 44), some (vI (i : Int))] [vI 3, vI (i : Int), vX a, vI (xs (((i : Int) + 2)).toNat).toInt, vI (xs (((i : Int) + 1)).toNat).toInt, vR 44, vI x] (sh1, J1, L1) (ga + 0, gb + 0) ?_
  refine hK.1 528 [some (vX a), some (vR 0), some (vR 44), some (vI (i : Int))] [vI ((i : Int) + 3), vX a, vI (xs (((i : Int) + 2)).toNat).toInt, vI (xs (((i : Int) + 1)).toNat).toInt, vR 44, vI x] (sh1, J1, L1) (ga + 0, gb + 0) ?_
  refine And.intro ⟨rfl, by omega, by omega⟩ ?_
  refine hK.1 529 [some (vX a), some (vR 0), some (vR 44), some (vI (i : Int))] [vI (xs (((i : Int) + 3)).toNat).toInt, vI (xs (((i : Int) + 2)).toNat).toInt, vI (xs (((i : Int) + 1)).toNat).toInt, vR 44, vI x] (sh1, J1, L1) (ga + 0, gb + 0) ?_
  refine And.intro ⟨sk_44 nx.1, Nat.le_of_ble_eq_true rfl, Nat.le_of_ble_eq_true rfl, by show ga + 0 + 0 ≤ 600000; omega, by show gb + 0 + 0 ≤ 7302250; omega⟩ (nx.2 _ (fun sh2 Z L2 hs2 R2 => ?_))
  refine hK.1 532 [some (vX a), some (vR 0), some (vR 44), some (vI (i : Int))] [vI x, vI x] (sh2, Z, L2) (ga + 0 + 0, gb + 0 + 0) ?_
  exact And.intro rfl (k _ _ _ _ _ (by omega) (by omega) hs2 R2)
set_option maxRecDepth 4000 in
theorem lc_13 (hK : oCl (tb_L a n xs) Q K) {sh : oS} {I : Nat → Nat → Int} {L : Nat → Nat → Int64} (hs : Sh sh) {b : Nat} (R : Rel sh I b 0) (hb : b ≤ 10000) {i ga gb : Nat} (hi : i + 5 ≤ n) (g1 : ga + 4 ≤ 600000) (g2 : gb + 27 ≤ 7302250) (k : ∀ sh2 Z L2 ga2 gb2, ga2 ≤ ga + 4 → gb2 ≤ gb + 27 → Sh sh2 → Rel sh2 Z (b + 1) 0 → K 1149 [some (vX a), some (vR 0), some (vR 44), some (vI (i : Int))] [] (sh2, Z, L2) (ga2, gb2)) : K 537 [some (vX a), some (vR 0), some (vR 44), some (vI (i : Int))] [] (sh, I, L) (ga, gb) := by
  refine hK.1 537 [some (vX a), some (vR 0), some (vR 44), some (vI (i : Int))] [] (sh, I, L) (ga, gb) ?_
  refine hK.1 538 [some (vX a), some (vR 0), some (vR 44), some (vI (i : Int))] [vR 0] (sh, I, L) (ga, gb) ?_
  refine hK.1 539 [some (vX a), some (vR 0), some (vR 44), some (vI (i : Int))] [vX a, vR 0] (sh, I, L) (ga, gb) ?_
  refine hK.1 540 [some (vX a), some (vR 0), some (vR 44), some (vI (i : Int))] [vI (i : Int), vX a, vR 0] (sh, I, L) (ga, gb) ?_
  refine hK.1 541 [some (vX a), some (vR 0), some (vR 44), some (vI (i : Int))] [vI 1, vI (i : Int), vX a, vR 0] (sh, I, L) (ga, gb) ?_
  refine hK.1 542 [some (vX a), some (vR 0), some (vR 44), some (vI (i : Int))] [vI ((i : Int) + 1), vX a, vR 0] (sh, I, L) (ga, gb) ?_
  refine And.intro ⟨rfl, by omega, by omega⟩ ?_
  refine hK.1 543 [some (vX a), some (vR 0), some (vR 44), some (vI (i : Int))] [vI (xs (((i : Int) + 1)).toNat).toInt, vR 0] (sh, I, L) (ga, gb) ?_
  refine hK.1 544 [some (vX a), some (vR 0), some (vR 44), some (vI (i : Int))] [vX a, vI (xs (((i : Int) + 1)).toNat).toInt, vR 0] (sh, I, L) (ga, gb) ?_
  refine hK.1 545 [some (vX a), some (vR 0), some (vR 44), some (vI (i : Int))] [vI (i : Int), vX a, vI (xs (((i : Int) + 1)).toNat).toInt, vR 0] (sh, I, L) (ga, gb) ?_
  refine hK.1 546 [some (vX a), some (vR 0), some (vR 44), some (vI (i : Int))] [vI 2, vI (i : Int), vX a, vI (xs (((i : Int) + 1)).toNat).toInt, vR 0] (sh, I, L) (ga, gb) ?_
  refine hK.1 547 [some (vX a), some (vR 0), some (vR 44), some (vI (i : Int))] [vI ((i : Int) + 2), vX a, vI (xs (((i : Int) + 1)).toNat).toInt, vR 0] (sh, I, L) (ga, gb) ?_
  refine And.intro ⟨rfl, by omega, by omega⟩ ?_
  refine hK.1 548 [some (vX a), some (vR 0), some (vR 44), some (vI (i : Int))] [vI (xs (((i : Int) + 2)).toNat).toInt, vI (xs (((i : Int) + 1)).toNat).toInt, vR 0] (sh, I, L) (ga, gb) ?_
  refine hK.1 549 [some (vX a), some (vR 0), some (vR 44), some (vI (i : Int))] [vX a, vI (xs (((i : Int) + 2)).toNat).toInt, vI (xs (((i : Int) + 1)).toNat).toInt, vR 0] (sh, I, L) (ga, gb) ?_
  refine hK.1 550 [some (vX a), some (vR 0), some (vR 44), some (vI (i : Int))] [vI (i : Int), vX a, vI (xs (((i : Int) + 2)).toNat).toInt, vI (xs (((i : Int) + 1)).toNat).toInt, vR 0] (sh, I, L) (ga, gb) ?_
  refine hK.1 551 [some (vX a), some (vR 0), some (vR 44), some (vI (i : Int))] [vI 3, vI (i : Int), vX a, vI (xs (((i : Int) + 2)).toNat).toInt, vI (xs (((i : Int) + 1)).toNat).toInt, vR 0] (sh, I, L) (ga, gb) ?_
  refine hK.1 552 [some (vX a), some (vR 0), some (vR 44), some (vI (i : Int))] [vI ((i : Int) + 3), vX a, vI (xs (((i : Int) + 2)).toNat).toInt, vI (xs (((i : Int) + 1)).toNat).toInt, vR 0] (sh, I, L) (ga, gb) ?_
  refine And.intro ⟨rfl, by omega, by omega⟩ ?_
  refine hK.1 553 [some (vX a), some (vR 0), some (vR 44), some (vI (i : Int))] [vI (xs (((i : Int) + 3)).toNat).toInt, vI (xs (((i : Int) + 2)).toNat).toInt, vI (xs (((i : Int) + 1)).toNat).toInt, vR 0] (sh, I, L) (ga, gb) ?_
  refine And.intro ⟨sk_0 hs, Nat.le_of_ble_eq_true rfl, Nat.le_of_ble_eq_true rfl, by show ga + 0 ≤ 600000; omega, by show gb + 0 ≤ 7302250; omega⟩ ?_
  refine (pr_stand (L := L) hs R (on_r (xs (((i : Int) + 1)).toNat)) (on_r (xs (((i : Int) + 2)).toNat)) (on_r (xs (((i : Int) + 3)).toNat))) _ (fun x mm nx => ?_)
  obtain ⟨sh1, J1, L1⟩ := mm
  refine hK.1 556 [some (vX a), some (vR 0), some (vR 44), some (vI (i : Int))] [vI x] (sh1, J1, L1) (ga + 0, gb + 0) ?_
  refine hK.1 557 [some (vX a), some (vR 0), some (vR 44), some (vI (i : Int))] [vR 44, vI x] (sh1, J1, L1) (ga + 0, gb + 0) ?_
  refine hK.1 558 [some (vX a), some (vR 0), some (vR 44), some (vI (i : Int))] [vX a, vR 44, vI x] (sh1, J1, L1) (ga + 0, gb + 0) ?_
  refine hK.1 559 [some (vX a), some (vR 0), some (vR 44), some (vI (i : Int))] [vI (i : Int), vX a, vR 44, vI x] (sh1, J1, L1) (ga + 0, gb + 0) ?_
  refine hK.1 560 [some (vX a), some (vR 0), some (vR 44), some (vI (i : Int))] [vI 1, vI (i : Int), vX a, vR 44, vI x] (sh1, J1, L1) (ga + 0, gb + 0) ?_
  refine hK.1 561 [some (vX a), some (vR 0), some (vR 44), some (vI (i : Int))] [vI ((i : Int) + 1), vX a, vR 44, vI x] (sh1, J1, L1) (ga + 0, gb + 0) ?_
  refine And.intro ⟨rfl, by omega, by omega⟩ ?_
  refine hK.1 562 [some (vX a), some (vR 0), some (vR 44), some (vI (i : Int))] [vI (xs (((i : Int) + 1)).toNat).toInt, vR 44, vI x] (sh1, J1, L1) (ga + 0, gb + 0) ?_
  refine hK.1 563 [some (vX a), some (vR 0), some (vR 44), some (vI (i : Int))] [vX a, vI (xs (((i : Int) + 1)).toNat).toInt, vR 44, vI x] (sh1, J1, L1) (ga + 0, gb + 0) ?_
  refine hK.1 564 [some (vX a), some (vR 0), some (vR 44), some (vI (i : Int))] [vI (i : Int), vX a, vI (xs (((i : Int) + 1)).toNat).toInt, vR 44, vI x] (sh1, J1, L1) (ga + 0, gb + 0) ?_
  refine hK.1 565 [some (vX a), some (vR 0), some (vR 44), some (vI (i : Int))] [vI 2, vI (i : Int), vX a, vI (xs (((i : Int) + 1)).toNat).toInt, vR 44, vI x] (sh1, J1, L1) (ga + 0, gb + 0) ?_
  refine hK.1 566 [some (vX a), some (vR 0), some (vR 44), some (vI (i : Int))] [vI ((i : Int) + 2), vX a, vI (xs (((i : Int) + 1)).toNat).toInt, vR 44, vI x] (sh1, J1, L1) (ga + 0, gb + 0) ?_
  refine And.intro ⟨rfl, by omega, by omega⟩ ?_
  refine hK.1 567 [some (vX a), some (vR 0), some (vR 44), some (vI (i : Int))] [vI (xs (((i : Int) + 2)).toNat).toInt, vI (xs (((i : Int) + 1)).toNat).toInt, vR 44, vI x] (sh1, J1, L1) (ga + 0, gb + 0) ?_
  refine hK.1 568 [some (vX a), some (vR 0), some (vR 44), some (vI (i : Int))] [vX a, vI (xs (((i : Int) + 2)).toNat).toInt, vI (xs (((i : Int) + 1)).toNat).toInt, vR 44, vI x] (sh1, J1, L1) (ga + 0, gb + 0) ?_
  refine hK.1 569 [some (vX a), some (vR 0), some (vR 44), some (vI (i : Int))] [vI (i : Int), vX a, vI (xs (((i : Int) + 2)).toNat).toInt, vI (xs (((i : Int) + 1)).toNat).toInt, vR 44, vI x] (sh1, J1, L1) (ga + 0, gb + 0) ?_
  refine hK.1 570 [some (vX a), some (vR 0), some (vR 44), some (vI (i : Int))] [vI 3, vI (i : Int), vX a, vI (xs (((i : Int) + 2)).toNat).toInt, vI (xs (((i : Int) + 1)).toNat).toInt, vR 44, vI x] (sh1, J1, L1) (ga + 0, gb + 0) ?_
  refine hK.1 571 [some (vX a), some (vR 0), some (vR 44), some (vI (i : Int))] [vI ((i : Int) + 3), vX a, vI (xs (((i : Int) + 2)).toNat).toInt, vI (xs (((i : Int) + 1)).toNat).toInt, vR 44, vI x] (sh1, J1, L1) (ga + 0, gb + 0) ?_
  refine And.intro ⟨rfl, by omega, by omega⟩ ?_
  refine hK.1 572 [some (vX a), some (vR 0), some (vR 44), some (vI (i : Int))] [vI (xs (((i : Int) + 3)).toNat).toInt, vI (xs (((i : Int) + 2)).toNat).toInt, vI (xs (((i : Int) + 1)).toNat).toInt, vR 44, vI x] (sh1, J1, L1) (ga + 0, gb + 0) ?_
  refine And.intro ⟨sk_44 nx.1, Nat.le_of_ble_eq_true rfl, Nat.le_of_ble_eq_true rfl, by show ga + 0 + 0 ≤ 600000; omega, by show gb + 0 + 0 ≤ 7302250; omega⟩ (nx.2 _ (fun sh2 Z L2 hs2 R2 => ?_))
  refine hK.1 575 [some (vX a), some (vR 0), some (vR 44), some (vI (i : Int))] [vI x, vI x] (sh2, Z, L2) (ga + 0 + 0, gb + 0 + 0) ?_
  exact And.intro rfl (k _ _ _ _ _ (by omega) (by omega) hs2 R2)
set_option maxRecDepth 4000 in
theorem lc_14 (hK : oCl (tb_L a n xs) Q K) {sh : oS} {I : Nat → Nat → Int} {L : Nat → Nat → Int64} (hs : Sh sh) {b : Nat} (R : Rel sh I b 0) (hb : b ≤ 10000) {i ga gb : Nat} (hi : i + 5 ≤ n) (g1 : ga + 4 ≤ 600000) (g2 : gb + 27 ≤ 7302250) (k : ∀ sh2 Z L2 ga2 gb2, ga2 ≤ ga + 4 → gb2 ≤ gb + 27 → Sh sh2 → Rel sh2 Z (b + 1) 0 → K 1149 [some (vX a), some (vR 0), some (vR 44), some (vI (i : Int))] [] (sh2, Z, L2) (ga2, gb2)) : K 580 [some (vX a), some (vR 0), some (vR 44), some (vI (i : Int))] [] (sh, I, L) (ga, gb) := by
  refine hK.1 580 [some (vX a), some (vR 0), some (vR 44), some (vI (i : Int))] [] (sh, I, L) (ga, gb) ?_
  refine hK.1 581 [some (vX a), some (vR 0), some (vR 44), some (vI (i : Int))] [vR 0] (sh, I, L) (ga, gb) ?_
  refine hK.1 582 [some (vX a), some (vR 0), some (vR 44), some (vI (i : Int))] [vX a, vR 0] (sh, I, L) (ga, gb) ?_
  refine hK.1 583 [some (vX a), some (vR 0), some (vR 44), some (vI (i : Int))] [vI (i : Int), vX a, vR 0] (sh, I, L) (ga, gb) ?_
  refine hK.1 584 [some (vX a), some (vR 0), some (vR 44), some (vI (i : Int))] [vI 1, vI (i : Int), vX a, vR 0] (sh, I, L) (ga, gb) ?_
  refine hK.1 585 [some (vX a), some (vR 0), some (vR 44), some (vI (i : Int))] [vI ((i : Int) + 1), vX a, vR 0] (sh, I, L) (ga, gb) ?_
  refine And.intro ⟨rfl, by omega, by omega⟩ ?_
  refine hK.1 586 [some (vX a), some (vR 0), some (vR 44), some (vI (i : Int))] [vI (xs (((i : Int) + 1)).toNat).toInt, vR 0] (sh, I, L) (ga, gb) ?_
  refine hK.1 587 [some (vX a), some (vR 0), some (vR 44), some (vI (i : Int))] [vX a, vI (xs (((i : Int) + 1)).toNat).toInt, vR 0] (sh, I, L) (ga, gb) ?_
  refine hK.1 588 [some (vX a), some (vR 0), some (vR 44), some (vI (i : Int))] [vI (i : Int), vX a, vI (xs (((i : Int) + 1)).toNat).toInt, vR 0] (sh, I, L) (ga, gb) ?_
  refine hK.1 589 [some (vX a), some (vR 0), some (vR 44), some (vI (i : Int))] [vI 2, vI (i : Int), vX a, vI (xs (((i : Int) + 1)).toNat).toInt, vR 0] (sh, I, L) (ga, gb) ?_
  refine hK.1 590 [some (vX a), some (vR 0), some (vR 44), some (vI (i : Int))] [vI ((i : Int) + 2), vX a, vI (xs (((i : Int) + 1)).toNat).toInt, vR 0] (sh, I, L) (ga, gb) ?_
  refine And.intro ⟨rfl, by omega, by omega⟩ ?_
  refine hK.1 591 [some (vX a), some (vR 0), some (vR 44), some (vI (i : Int))] [vI (xs (((i : Int) + 2)).toNat).toInt, vI (xs (((i : Int) + 1)).toNat).toInt, vR 0] (sh, I, L) (ga, gb) ?_
  refine hK.1 592 [some (vX a), some (vR 0), some (vR 44), some (vI (i : Int))] [vX a, vI (xs (((i : Int) + 2)).toNat).toInt, vI (xs (((i : Int) + 1)).toNat).toInt, vR 0] (sh, I, L) (ga, gb) ?_
  refine hK.1 593 [some (vX a), some (vR 0), some (vR 44), some (vI (i : Int))] [vI (i : Int), vX a, vI (xs (((i : Int) + 2)).toNat).toInt, vI (xs (((i : Int) + 1)).toNat).toInt, vR 0] (sh, I, L) (ga, gb) ?_
  refine hK.1 594 [some (vX a), some (vR 0), some (vR 44), some (vI (i : Int))] [vI 3, vI (i : Int), vX a, vI (xs (((i : Int) + 2)).toNat).toInt, vI (xs (((i : Int) + 1)).toNat).toInt, vR 0] (sh, I, L) (ga, gb) ?_
  refine hK.1 595 [some (vX a), some (vR 0), some (vR 44), some (vI (i : Int))] [vI ((i : Int) + 3), vX a, vI (xs (((i : Int) + 2)).toNat).toInt, vI (xs (((i : Int) + 1)).toNat).toInt, vR 0] (sh, I, L) (ga, gb) ?_
  refine And.intro ⟨rfl, by omega, by omega⟩ ?_
  refine hK.1 596 [some (vX a), some (vR 0), some (vR 44), some (vI (i : Int))] [vI (xs (((i : Int) + 3)).toNat).toInt, vI (xs (((i : Int) + 2)).toNat).toInt, vI (xs (((i : Int) + 1)).toNat).toInt, vR 0] (sh, I, L) (ga, gb) ?_
  refine hK.1 597 [some (vX a), some (vR 0), some (vR 44), some (vI (i : Int))] [vX a, vI (xs (((i : Int) + 3)).toNat).toInt, vI (xs (((i : Int) + 2)).toNat).toInt, vI (xs (((i : Int) + 1)).toNat).toInt, vR 0] (sh, I, L) (ga, gb) ?_
  refine hK.1 598 [some (vX a), some (vR 0), some (vR 44), some (vI (i : Int))] [vI (i : Int), vX a, vI (xs (((i : Int) + 3)).toNat).toInt, vI (xs (((i : Int) + 2)).toNat).toInt, vI (xs (((i : Int) + 1)).toNat).toInt, vR 0] (sh, I, L) (ga, gb) ?_
  refine hK.1 599 [some (vX a), some (vR 0), some (vR 44), some (vI (i : Int))] [vI 4, vI (i : Int), vX a, vI (xs (((i : Int) + 3)).toNat).toInt, vI (xs (((i : Int) + 2)).toNat).toInt, vI (xs (((i : Int) + 1)).toNat).toInt, vR 0] (sh, I, L) (ga, gb) ?_
  refine hK.1 600 [some (vX a), some (vR 0), some (vR 44), some (vI (i : Int))] [vI ((i : Int) + 4), vX a, vI (xs (((i : Int) + 3)).toNat).toInt, vI (xs (((i : Int) + 2)).toNat).toInt, vI (xs (((i : Int) + 1)).toNat).toInt, vR 0] (sh, I, L) (ga, gb) ?_
  refine And.intro ⟨rfl, by omega, by omega⟩ ?_
  refine hK.1 601 [some (vX a), some (vR 0), some (vR 44), some (vI (i : Int))] [vI (xs (((i : Int) + 4)).toNat).toInt, vI (xs (((i : Int) + 3)).toNat).toInt, vI (xs (((i : Int) + 2)).toNat).toInt, vI (xs (((i : Int) + 1)).toNat).toInt, vR 0] (sh, I, L) (ga, gb) ?_
  refine And.intro ⟨sk_0 hs, Nat.le_of_ble_eq_true rfl, Nat.le_of_ble_eq_true rfl, by show ga + 0 ≤ 600000; omega, by show gb + 0 ≤ 7302250; omega⟩ ?_
  refine (pr_bakes (L := L) hs R (on_r (xs (((i : Int) + 1)).toNat)) (on_r (xs (((i : Int) + 2)).toNat)) (on_r (xs (((i : Int) + 3)).toNat)) (on_r (xs (((i : Int) + 4)).toNat))) _ (fun x mm nx => ?_)
  obtain ⟨sh1, J1, L1⟩ := mm
  refine hK.1 604 [some (vX a), some (vR 0), some (vR 44), some (vI (i : Int))] [vI x] (sh1, J1, L1) (ga + 0, gb + 0) ?_
  refine hK.1 605 [some (vX a), some (vR 0), some (vR 44), some (vI (i : Int))] [vR 44, vI x] (sh1, J1, L1) (ga + 0, gb + 0) ?_
  refine hK.1 606 [some (vX a), some (vR 0), some (vR 44), some (vI (i : Int))] [vX a, vR 44, vI x] (sh1, J1, L1) (ga + 0, gb + 0) ?_
  refine hK.1 607 [some (vX a), some (vR 0), some (vR 44), some (vI (i : Int))] [vI (i : Int), vX a, vR 44, vI x] (sh1, J1, L1) (ga + 0, gb + 0) ?_
  refine hK.1 608 [some (vX a), some (vR 0), some (vR 44), some (vI (i : Int))] [vI 1, vI (i : Int), vX a, vR 44, vI x] (sh1, J1, L1) (ga + 0, gb + 0) ?_
  refine hK.1 609 [some (vX a), some (vR 0), some (vR 44), some (vI (i : Int))] [vI ((i : Int) + 1), vX a, vR 44, vI x] (sh1, J1, L1) (ga + 0, gb + 0) ?_
  refine And.intro ⟨rfl, by omega, by omega⟩ ?_
  refine hK.1 610 [some (vX a), some (vR 0), some (vR 44), some (vI (i : Int))] [vI (xs (((i : Int) + 1)).toNat).toInt, vR 44, vI x] (sh1, J1, L1) (ga + 0, gb + 0) ?_
  refine hK.1 611 [some (vX a), some (vR 0), some (vR 44), some (vI (i : Int))] [vX a, vI (xs (((i : Int) + 1)).toNat).toInt, vR 44, vI x] (sh1, J1, L1) (ga + 0, gb + 0) ?_
  refine hK.1 612 [some (vX a), some (vR 0), some (vR 44), some (vI (i : Int))] [vI (i : Int), vX a, vI (xs (((i : Int) + 1)).toNat).toInt, vR 44, vI x] (sh1, J1, L1) (ga + 0, gb + 0) ?_
  refine hK.1 613 [some (vX a), some (vR 0), some (vR 44), some (vI (i : Int))] [vI 2, vI (i : Int), vX a, vI (xs (((i : Int) + 1)).toNat).toInt, vR 44, vI x] (sh1, J1, L1) (ga + 0, gb + 0) ?_
  refine hK.1 614 [some (vX a), some (vR 0), some (vR 44), some (vI (i : Int))] [vI ((i : Int) + 2), vX a, vI (xs (((i : Int) + 1)).toNat).toInt, vR 44, vI x] (sh1, J1, L1) (ga + 0, gb + 0) ?_
  refine And.intro ⟨rfl, by omega, by omega⟩ ?_
  refine hK.1 615 [some (vX a), some (vR 0), some (vR 44), some (vI (i : Int))] [vI (xs (((i : Int) + 2)).toNat).toInt, vI (xs (((i : Int) + 1)).toNat).toInt, vR 44, vI x] (sh1, J1, L1) (ga + 0, gb + 0) ?_
  refine hK.1 616 [some (vX a), some (vR 0), some (vR 44), some (vI (i : Int))] [vX a, vI (xs (((i : Int) + 2)).toNat).toInt, vI (xs (((i : Int) + 1)).toNat).toInt, vR 44, vI x] (sh1, J1, L1) (ga + 0, gb + 0) ?_
  refine hK.1 617 [some (vX a), some (vR 0), some (vR 44), some (vI (i : Int))] [vI (i : Int), vX a, vI (xs (((i : Int) + 2)).toNat).toInt, vI (xs (((i : Int) + 1)).toNat).toInt, vR 44, vI x] (sh1, J1, L1) (ga + 0, gb + 0) ?_
  refine hK.1 618 [some (vX a), some (vR 0), some (vR 44), some (vI (i : Int))] [vI 3, vI (i : Int), vX a, vI (xs (((i : Int) + 2)).toNat).toInt, vI (xs (((i : Int) + 1)).toNat).toInt, vR 44, vI x] (sh1, J1, L1) (ga + 0, gb + 0) ?_
  refine hK.1 619 [some (vX a), some (vR 0), some (vR 44), some (vI (i : Int))] [vI ((i : Int) + 3), vX a, vI (xs (((i : Int) + 2)).toNat).toInt, vI (xs (((i : Int) + 1)).toNat).toInt, vR 44, vI x] (sh1, J1, L1) (ga + 0, gb + 0) ?_
  refine And.intro ⟨rfl, by omega, by omega⟩ ?_
  refine hK.1 620 [some (vX a), some (vR 0), some (vR 44), some (vI (i : Int))] [vI (xs (((i : Int) + 3)).toNat).toInt, vI (xs (((i : Int) + 2)).toNat).toInt, vI (xs (((i : Int) + 1)).toNat).toInt, vR 44, vI x] (sh1, J1, L1) (ga + 0, gb + 0) ?_
  refine hK.1 621 [some (vX a), some (vR 0), some (vR 44), some (vI (i : Int))] [vX a, vI (xs (((i : Int) + 3)).toNat).toInt, vI (xs (((i : Int) + 2)).toNat).toInt, vI (xs (((i : Int) + 1)).toNat).toInt, vR 44, vI x] (sh1, J1, L1) (ga + 0, gb + 0) ?_
  refine hK.1 622 [some (vX a), some (vR 0), some (vR 44), some (vI (i : Int))] [vI (i : Int), vX a, vI (xs (((i : Int) + 3)).toNat).toInt, vI (xs (((i : Int) + 2)).toNat).toInt, vI (xs (((i : Int) + 1)).toNat).toInt, vR 44, vI x] (sh1, J1, L1) (ga + 0, gb + 0) ?_
  refine hK.1 623 [some (vX a), some (vR 0), some (vR 44), some (vI (i : Int))] [vI 4, vI (i : Int), vX a, vI (xs (((i : Int) + 3)).toNat).toInt, vI (xs (((i : Int) + 2)).toNat).toInt, vI (xs (((i : Int) + 1)).toNat).toInt, vR 44, vI x] (sh1, J1, L1) (ga + 0, gb + 0) ?_
  refine hK.1 624 [some (vX a), some (vR 0), some (vR 44), some (vI (i : Int))] [vI ((i : Int) + 4), vX a, vI (xs (((i : Int) + 3)).toNat).toInt, vI (xs (((i : Int) + 2)).toNat).toInt, vI (xs (((i : Int) + 1)).toNat).toInt, vR 44, vI x] (sh1, J1, L1) (ga + 0, gb + 0) ?_
  refine And.intro ⟨rfl, by omega, by omega⟩ ?_
  refine hK.1 625 [some (vX a), some (vR 0), some (vR 44), some (vI (i : Int))] [vI (xs (((i : Int) + 4)).toNat).toInt, vI (xs (((i : Int) + 3)).toNat).toInt, vI (xs (((i : Int) + 2)).toNat).toInt, vI (xs (((i : Int) + 1)).toNat).toInt, vR 44, vI x] (sh1, J1, L1) (ga + 0, gb + 0) ?_
  refine And.intro ⟨sk_44 nx.1, Nat.le_of_ble_eq_true rfl, Nat.le_of_ble_eq_true rfl, by show ga + 0 + 0 ≤ 600000; omega, by show gb + 0 + 0 ≤ 7302250; omega⟩ (nx.2 _ (fun sh2 Z L2 hs2 R2 => ?_))
  refine hK.1 628 [some (vX a), some (vR 0), some (vR 44), some (vI (i : Int))] [vI x, vI x] (sh2, Z, L2) (ga + 0 + 0, gb + 0 + 0) ?_
  exact And.intro rfl (k _ _ _ _ _ (by omega) (by omega) hs2 R2)
set_option maxRecDepth 4000 in
theorem lc_15 (hK : oCl (tb_L a n xs) Q K) {sh : oS} {I : Nat → Nat → Int} {L : Nat → Nat → Int64} (hs : Sh sh) {b : Nat} (R : Rel sh I b 0) (hb : b ≤ 10000) {i ga gb : Nat} (hi : i + 5 ≤ n) (g1 : ga + 4 ≤ 600000) (g2 : gb + 27 ≤ 7302250) (k : ∀ sh2 Z L2 ga2 gb2, ga2 ≤ ga + 4 → gb2 ≤ gb + 27 → Sh sh2 → Rel sh2 Z (b + 1) 0 → K 1149 [some (vX a), some (vR 0), some (vR 44), some (vI (i : Int))] [] (sh2, Z, L2) (ga2, gb2)) : K 633 [some (vX a), some (vR 0), some (vR 44), some (vI (i : Int))] [] (sh, I, L) (ga, gb) := by
  refine hK.1 633 [some (vX a), some (vR 0), some (vR 44), some (vI (i : Int))] [] (sh, I, L) (ga, gb) ?_
  refine hK.1 634 [some (vX a), some (vR 0), some (vR 44), some (vI (i : Int))] [vR 0] (sh, I, L) (ga, gb) ?_
  refine hK.1 635 [some (vX a), some (vR 0), some (vR 44), some (vI (i : Int))] [vX a, vR 0] (sh, I, L) (ga, gb) ?_
  refine hK.1 636 [some (vX a), some (vR 0), some (vR 44), some (vI (i : Int))] [vI (i : Int), vX a, vR 0] (sh, I, L) (ga, gb) ?_
  refine hK.1 637 [some (vX a), some (vR 0), some (vR 44), some (vI (i : Int))] [vI 1, vI (i : Int), vX a, vR 0] (sh, I, L) (ga, gb) ?_
  refine hK.1 638 [some (vX a), some (vR 0), some (vR 44), some (vI (i : Int))] [vI ((i : Int) + 1), vX a, vR 0] (sh, I, L) (ga, gb) ?_
  refine And.intro ⟨rfl, by omega, by omega⟩ ?_
  refine hK.1 639 [some (vX a), some (vR 0), some (vR 44), some (vI (i : Int))] [vI (xs (((i : Int) + 1)).toNat).toInt, vR 0] (sh, I, L) (ga, gb) ?_
  refine hK.1 640 [some (vX a), some (vR 0), some (vR 44), some (vI (i : Int))] [vX a, vI (xs (((i : Int) + 1)).toNat).toInt, vR 0] (sh, I, L) (ga, gb) ?_
  refine hK.1 641 [some (vX a), some (vR 0), some (vR 44), some (vI (i : Int))] [vI (i : Int), vX a, vI (xs (((i : Int) + 1)).toNat).toInt, vR 0] (sh, I, L) (ga, gb) ?_
  refine hK.1 642 [some (vX a), some (vR 0), some (vR 44), some (vI (i : Int))] [vI 2, vI (i : Int), vX a, vI (xs (((i : Int) + 1)).toNat).toInt, vR 0] (sh, I, L) (ga, gb) ?_
  refine hK.1 643 [some (vX a), some (vR 0), some (vR 44), some (vI (i : Int))] [vI ((i : Int) + 2), vX a, vI (xs (((i : Int) + 1)).toNat).toInt, vR 0] (sh, I, L) (ga, gb) ?_
  refine And.intro ⟨rfl, by omega, by omega⟩ ?_
  refine hK.1 644 [some (vX a), some (vR 0), some (vR 44), some (vI (i : Int))] [vI (xs (((i : Int) + 2)).toNat).toInt, vI (xs (((i : Int) + 1)).toNat).toInt, vR 0] (sh, I, L) (ga, gb) ?_
  refine hK.1 645 [some (vX a), some (vR 0), some (vR 44), some (vI (i : Int))] [vX a, vI (xs (((i : Int) + 2)).toNat).toInt, vI (xs (((i : Int) + 1)).toNat).toInt, vR 0] (sh, I, L) (ga, gb) ?_
  refine hK.1 646 [some (vX a), some (vR 0), some (vR 44), some (vI (i : Int))] [vI (i : Int), vX a, vI (xs (((i : Int) + 2)).toNat).toInt, vI (xs (((i : Int) + 1)).toNat).toInt, vR 0] (sh, I, L) (ga, gb) ?_
  refine hK.1 647 [some (vX a), some (vR 0), some (vR 44), some (vI (i : Int))] [vI 3, vI (i : Int), vX a, vI (xs (((i : Int) + 2)).toNat).toInt, vI (xs (((i : Int) + 1)).toNat).toInt, vR 0] (sh, I, L) (ga, gb) ?_
  refine hK.1 648 [some (vX a), some (vR 0), some (vR 44), some (vI (i : Int))] [vI ((i : Int) + 3), vX a, vI (xs (((i : Int) + 2)).toNat).toInt, vI (xs (((i : Int) + 1)).toNat).toInt, vR 0] (sh, I, L) (ga, gb) ?_
  refine And.intro ⟨rfl, by omega, by omega⟩ ?_
  refine hK.1 649 [some (vX a), some (vR 0), some (vR 44), some (vI (i : Int))] [vI (xs (((i : Int) + 3)).toNat).toInt, vI (xs (((i : Int) + 2)).toNat).toInt, vI (xs (((i : Int) + 1)).toNat).toInt, vR 0] (sh, I, L) (ga, gb) ?_
  refine And.intro ⟨sk_0 hs, Nat.le_of_ble_eq_true rfl, Nat.le_of_ble_eq_true rfl, by show ga + 0 ≤ 600000; omega, by show gb + 0 ≤ 7302250; omega⟩ ?_
  refine (pr_hungry (L := L) hs R (on_r (xs (((i : Int) + 1)).toNat)) (on_r (xs (((i : Int) + 2)).toNat)) (on_r (xs (((i : Int) + 3)).toNat))) _ (fun x mm nx => ?_)
  obtain ⟨sh1, J1, L1⟩ := mm
  refine hK.1 652 [some (vX a), some (vR 0), some (vR 44), some (vI (i : Int))] [vI x] (sh1, J1, L1) (ga + 0, gb + 0) ?_
  refine hK.1 653 [some (vX a), some (vR 0), some (vR 44), some (vI (i : Int))] [vR 44, vI x] (sh1, J1, L1) (ga + 0, gb + 0) ?_
  refine hK.1 654 [some (vX a), some (vR 0), some (vR 44), some (vI (i : Int))] [vX a, vR 44, vI x] (sh1, J1, L1) (ga + 0, gb + 0) ?_
  refine hK.1 655 [some (vX a), some (vR 0), some (vR 44), some (vI (i : Int))] [vI (i : Int), vX a, vR 44, vI x] (sh1, J1, L1) (ga + 0, gb + 0) ?_
  refine hK.1 656 [some (vX a), some (vR 0), some (vR 44), some (vI (i : Int))] [vI 1, vI (i : Int), vX a, vR 44, vI x] (sh1, J1, L1) (ga + 0, gb + 0) ?_
  refine hK.1 657 [some (vX a), some (vR 0), some (vR 44), some (vI (i : Int))] [vI ((i : Int) + 1), vX a, vR 44, vI x] (sh1, J1, L1) (ga + 0, gb + 0) ?_
  refine And.intro ⟨rfl, by omega, by omega⟩ ?_
  refine hK.1 658 [some (vX a), some (vR 0), some (vR 44), some (vI (i : Int))] [vI (xs (((i : Int) + 1)).toNat).toInt, vR 44, vI x] (sh1, J1, L1) (ga + 0, gb + 0) ?_
  refine hK.1 659 [some (vX a), some (vR 0), some (vR 44), some (vI (i : Int))] [vX a, vI (xs (((i : Int) + 1)).toNat).toInt, vR 44, vI x] (sh1, J1, L1) (ga + 0, gb + 0) ?_
  refine hK.1 660 [some (vX a), some (vR 0), some (vR 44), some (vI (i : Int))] [vI (i : Int), vX a, vI (xs (((i : Int) + 1)).toNat).toInt, vR 44, vI x] (sh1, J1, L1) (ga + 0, gb + 0) ?_
  refine hK.1 661 [some (vX a), some (vR 0), some (vR 44), some (vI (i : Int))] [vI 2, vI (i : Int), vX a, vI (xs (((i : Int) + 1)).toNat).toInt, vR 44, vI x] (sh1, J1, L1) (ga + 0, gb + 0) ?_
  refine hK.1 662 [some (vX a), some (vR 0), some (vR 44), some (vI (i : Int))] [vI ((i : Int) + 2), vX a, vI (xs (((i : Int) + 1)).toNat).toInt, vR 44, vI x] (sh1, J1, L1) (ga + 0, gb + 0) ?_
  refine And.intro ⟨rfl, by omega, by omega⟩ ?_
  refine hK.1 663 [some (vX a), some (vR 0), some (vR 44), some (vI (i : Int))] [vI (xs (((i : Int) + 2)).toNat).toInt, vI (xs (((i : Int) + 1)).toNat).toInt, vR 44, vI x] (sh1, J1, L1) (ga + 0, gb + 0) ?_
  refine hK.1 664 [some (vX a), some (vR 0), some (vR 44), some (vI (i : Int))] [vX a, vI (xs (((i : Int) + 2)).toNat).toInt, vI (xs (((i : Int) + 1)).toNat).toInt, vR 44, vI x] (sh1, J1, L1) (ga + 0, gb + 0) ?_
  refine hK.1 665 [some (vX a), some (vR 0), some (vR 44), some (vI (i : Int))] [vI (i : Int), vX a, vI (xs (((i : Int) + 2)).toNat).toInt, vI (xs (((i : Int) + 1)).toNat).toInt, vR 44, vI x] (sh1, J1, L1) (ga + 0, gb + 0) ?_
  refine hK.1 666 [some (vX a), some (vR 0), some (vR 44), some (vI (i : Int))] [vI 3, vI (i : Int), vX a, vI (xs (((i : Int) + 2)).toNat).toInt, vI (xs (((i : Int) + 1)).toNat).toInt, vR 44, vI x] (sh1, J1, L1) (ga + 0, gb + 0) ?_
  refine hK.1 667 [some (vX a), some (vR 0), some (vR 44), some (vI (i : Int))] [vI ((i : Int) + 3), vX a, vI (xs (((i : Int) + 2)).toNat).toInt, vI (xs (((i : Int) + 1)).toNat).toInt, vR 44, vI x] (sh1, J1, L1) (ga + 0, gb + 0) ?_
  refine And.intro ⟨rfl, by omega, by omega⟩ ?_
  refine hK.1 668 [some (vX a), some (vR 0), some (vR 44), some (vI (i : Int))] [vI (xs (((i : Int) + 3)).toNat).toInt, vI (xs (((i : Int) + 2)).toNat).toInt, vI (xs (((i : Int) + 1)).toNat).toInt, vR 44, vI x] (sh1, J1, L1) (ga + 0, gb + 0) ?_
  refine And.intro ⟨sk_44 nx.1, Nat.le_of_ble_eq_true rfl, Nat.le_of_ble_eq_true rfl, by show ga + 0 + 0 ≤ 600000; omega, by show gb + 0 + 0 ≤ 7302250; omega⟩ (nx.2 _ (fun sh2 Z L2 hs2 R2 => ?_))
  refine hK.1 671 [some (vX a), some (vR 0), some (vR 44), some (vI (i : Int))] [vI x, vI x] (sh2, Z, L2) (ga + 0 + 0, gb + 0 + 0) ?_
  exact And.intro rfl (k _ _ _ _ _ (by omega) (by omega) hs2 R2)
set_option maxRecDepth 4000 in
theorem lc_16 (hK : oCl (tb_L a n xs) Q K) {sh : oS} {I : Nat → Nat → Int} {L : Nat → Nat → Int64} (hs : Sh sh) {b : Nat} (R : Rel sh I b 0) (hb : b ≤ 10000) {i ga gb : Nat} (hi : i + 5 ≤ n) (g1 : ga + 4 ≤ 600000) (g2 : gb + 27 ≤ 7302250) (k : ∀ sh2 Z L2 ga2 gb2, ga2 ≤ ga + 4 → gb2 ≤ gb + 27 → Sh sh2 → Rel sh2 Z (b + 1) 0 → K 1149 [some (vX a), some (vR 0), some (vR 44), some (vI (i : Int))] [] (sh2, Z, L2) (ga2, gb2)) : K 676 [some (vX a), some (vR 0), some (vR 44), some (vI (i : Int))] [] (sh, I, L) (ga, gb) := by
  refine hK.1 676 [some (vX a), some (vR 0), some (vR 44), some (vI (i : Int))] [] (sh, I, L) (ga, gb) ?_
  refine hK.1 677 [some (vX a), some (vR 0), some (vR 44), some (vI (i : Int))] [vR 0] (sh, I, L) (ga, gb) ?_
  refine hK.1 678 [some (vX a), some (vR 0), some (vR 44), some (vI (i : Int))] [vX a, vR 0] (sh, I, L) (ga, gb) ?_
  refine hK.1 679 [some (vX a), some (vR 0), some (vR 44), some (vI (i : Int))] [vI (i : Int), vX a, vR 0] (sh, I, L) (ga, gb) ?_
  refine hK.1 680 [some (vX a), some (vR 0), some (vR 44), some (vI (i : Int))] [vI 1, vI (i : Int), vX a, vR 0] (sh, I, L) (ga, gb) ?_
  refine hK.1 681 [some (vX a), some (vR 0), some (vR 44), some (vI (i : Int))] [vI ((i : Int) + 1), vX a, vR 0] (sh, I, L) (ga, gb) ?_
  refine And.intro ⟨rfl, by omega, by omega⟩ ?_
  refine hK.1 682 [some (vX a), some (vR 0), some (vR 44), some (vI (i : Int))] [vI (xs (((i : Int) + 1)).toNat).toInt, vR 0] (sh, I, L) (ga, gb) ?_
  refine hK.1 683 [some (vX a), some (vR 0), some (vR 44), some (vI (i : Int))] [vX a, vI (xs (((i : Int) + 1)).toNat).toInt, vR 0] (sh, I, L) (ga, gb) ?_
  refine hK.1 684 [some (vX a), some (vR 0), some (vR 44), some (vI (i : Int))] [vI (i : Int), vX a, vI (xs (((i : Int) + 1)).toNat).toInt, vR 0] (sh, I, L) (ga, gb) ?_
  refine hK.1 685 [some (vX a), some (vR 0), some (vR 44), some (vI (i : Int))] [vI 2, vI (i : Int), vX a, vI (xs (((i : Int) + 1)).toNat).toInt, vR 0] (sh, I, L) (ga, gb) ?_
  refine hK.1 686 [some (vX a), some (vR 0), some (vR 44), some (vI (i : Int))] [vI ((i : Int) + 2), vX a, vI (xs (((i : Int) + 1)).toNat).toInt, vR 0] (sh, I, L) (ga, gb) ?_
  refine And.intro ⟨rfl, by omega, by omega⟩ ?_
  refine hK.1 687 [some (vX a), some (vR 0), some (vR 44), some (vI (i : Int))] [vI (xs (((i : Int) + 2)).toNat).toInt, vI (xs (((i : Int) + 1)).toNat).toInt, vR 0] (sh, I, L) (ga, gb) ?_
  refine hK.1 688 [some (vX a), some (vR 0), some (vR 44), some (vI (i : Int))] [vX a, vI (xs (((i : Int) + 2)).toNat).toInt, vI (xs (((i : Int) + 1)).toNat).toInt, vR 0] (sh, I, L) (ga, gb) ?_
  refine hK.1 689 [some (vX a), some (vR 0), some (vR 44), some (vI (i : Int))] [vI (i : Int), vX a, vI (xs (((i : Int) + 2)).toNat).toInt, vI (xs (((i : Int) + 1)).toNat).toInt, vR 0] (sh, I, L) (ga, gb) ?_
  refine hK.1 690 [some (vX a), some (vR 0), some (vR 44), some (vI (i : Int))] [vI 3, vI (i : Int), vX a, vI (xs (((i : Int) + 2)).toNat).toInt, vI (xs (((i : Int) + 1)).toNat).toInt, vR 0] (sh, I, L) (ga, gb) ?_
  refine hK.1 691 [some (vX a), some (vR 0), some (vR 44), some (vI (i : Int))] [vI ((i : Int) + 3), vX a, vI (xs (((i : Int) + 2)).toNat).toInt, vI (xs (((i : Int) + 1)).toNat).toInt, vR 0] (sh, I, L) (ga, gb) ?_
  refine And.intro ⟨rfl, by omega, by omega⟩ ?_
  refine hK.1 692 [some (vX a), some (vR 0), some (vR 44), some (vI (i : Int))] [vI (xs (((i : Int) + 3)).toNat).toInt, vI (xs (((i : Int) + 2)).toNat).toInt, vI (xs (((i : Int) + 1)).toNat).toInt, vR 0] (sh, I, L) (ga, gb) ?_
  refine And.intro ⟨sk_0 hs, Nat.le_of_ble_eq_true rfl, Nat.le_of_ble_eq_true rfl, by show ga + 0 ≤ 600000; omega, by show gb + 0 ≤ 7302250; omega⟩ ?_
  refine (pr_carried (L := L) hs R (on_r (xs (((i : Int) + 1)).toNat)) (on_r (xs (((i : Int) + 2)).toNat)) (on_r (xs (((i : Int) + 3)).toNat))) _ (fun x mm nx => ?_)
  obtain ⟨sh1, J1, L1⟩ := mm
  refine hK.1 695 [some (vX a), some (vR 0), some (vR 44), some (vI (i : Int))] [vI x] (sh1, J1, L1) (ga + 0, gb + 0) ?_
  refine hK.1 696 [some (vX a), some (vR 0), some (vR 44), some (vI (i : Int))] [vR 44, vI x] (sh1, J1, L1) (ga + 0, gb + 0) ?_
  refine hK.1 697 [some (vX a), some (vR 0), some (vR 44), some (vI (i : Int))] [vX a, vR 44, vI x] (sh1, J1, L1) (ga + 0, gb + 0) ?_
  refine hK.1 698 [some (vX a), some (vR 0), some (vR 44), some (vI (i : Int))] [vI (i : Int), vX a, vR 44, vI x] (sh1, J1, L1) (ga + 0, gb + 0) ?_
  refine hK.1 699 [some (vX a), some (vR 0), some (vR 44), some (vI (i : Int))] [vI 1, vI (i : Int), vX a, vR 44, vI x] (sh1, J1, L1) (ga + 0, gb + 0) ?_
  refine hK.1 700 [some (vX a), some (vR 0), some (vR 44), some (vI (i : Int))] [vI ((i : Int) + 1), vX a, vR 44, vI x] (sh1, J1, L1) (ga + 0, gb + 0) ?_
  refine And.intro ⟨rfl, by omega, by omega⟩ ?_
  refine hK.1 701 [some (vX a), some (vR 0), some (vR 44), some (vI (i : Int))] [vI (xs (((i : Int) + 1)).toNat).toInt, vR 44, vI x] (sh1, J1, L1) (ga + 0, gb + 0) ?_
  refine hK.1 702 [some (vX a), some (vR 0), some (vR 44), some (vI (i : Int))] [vX a, vI (xs (((i : Int) + 1)).toNat).toInt, vR 44, vI x] (sh1, J1, L1) (ga + 0, gb + 0) ?_
  refine hK.1 703 [some (vX a), some (vR 0), some (vR 44), some (vI (i : Int))] [vI (i : Int), vX a, vI (xs (((i : Int) + 1)).toNat).toInt, vR 44, vI x] (sh1, J1, L1) (ga + 0, gb + 0) ?_
  refine hK.1 704 [some (vX a), some (vR 0), some (vR 44), some (vI (i : Int))] [vI 2, vI (i : Int), vX a, vI (xs (((i : Int) + 1)).toNat).toInt, vR 44, vI x] (sh1, J1, L1) (ga + 0, gb + 0) ?_
  refine hK.1 705 [some (vX a), some (vR 0), some (vR 44), some (vI (i : Int))] [vI ((i : Int) + 2), vX a, vI (xs (((i : Int) + 1)).toNat).toInt, vR 44, vI x] (sh1, J1, L1) (ga + 0, gb + 0) ?_
  refine And.intro ⟨rfl, by omega, by omega⟩ ?_
  refine hK.1 706 [some (vX a), some (vR 0), some (vR 44), some (vI (i : Int))] [vI (xs (((i : Int) + 2)).toNat).toInt, vI (xs (((i : Int) + 1)).toNat).toInt, vR 44, vI x] (sh1, J1, L1) (ga + 0, gb + 0) ?_
  refine hK.1 707 [some (vX a), some (vR 0), some (vR 44), some (vI (i : Int))] [vX a, vI (xs (((i : Int) + 2)).toNat).toInt, vI (xs (((i : Int) + 1)).toNat).toInt, vR 44, vI x] (sh1, J1, L1) (ga + 0, gb + 0) ?_
  refine hK.1 708 [some (vX a), some (vR 0), some (vR 44), some (vI (i : Int))] [vI (i : Int), vX a, vI (xs (((i : Int) + 2)).toNat).toInt, vI (xs (((i : Int) + 1)).toNat).toInt, vR 44, vI x] (sh1, J1, L1) (ga + 0, gb + 0) ?_
  refine hK.1 709 [some (vX a), some (vR 0), some (vR 44), some (vI (i : Int))] [vI 3, vI (i : Int), vX a, vI (xs (((i : Int) + 2)).toNat).toInt, vI (xs (((i : Int) + 1)).toNat).toInt, vR 44, vI x] (sh1, J1, L1) (ga + 0, gb + 0) ?_
  refine hK.1 710 [some (vX a), some (vR 0), some (vR 44), some (vI (i : Int))] [vI ((i : Int) + 3), vX a, vI (xs (((i : Int) + 2)).toNat).toInt, vI (xs (((i : Int) + 1)).toNat).toInt, vR 44, vI x] (sh1, J1, L1) (ga + 0, gb + 0) ?_
  refine And.intro ⟨rfl, by omega, by omega⟩ ?_
  refine hK.1 711 [some (vX a), some (vR 0), some (vR 44), some (vI (i : Int))] [vI (xs (((i : Int) + 3)).toNat).toInt, vI (xs (((i : Int) + 2)).toNat).toInt, vI (xs (((i : Int) + 1)).toNat).toInt, vR 44, vI x] (sh1, J1, L1) (ga + 0, gb + 0) ?_
  refine And.intro ⟨sk_44 nx.1, Nat.le_of_ble_eq_true rfl, Nat.le_of_ble_eq_true rfl, by show ga + 0 + 0 ≤ 600000; omega, by show gb + 0 + 0 ≤ 7302250; omega⟩ (nx.2 _ (fun sh2 Z L2 hs2 R2 => ?_))
  refine hK.1 714 [some (vX a), some (vR 0), some (vR 44), some (vI (i : Int))] [vI x, vI x] (sh2, Z, L2) (ga + 0 + 0, gb + 0 + 0) ?_
  exact And.intro rfl (k _ _ _ _ _ (by omega) (by omega) hs2 R2)
set_option maxRecDepth 4000 in
theorem lc_17 (hK : oCl (tb_L a n xs) Q K) {sh : oS} {I : Nat → Nat → Int} {L : Nat → Nat → Int64} (hs : Sh sh) {b : Nat} (R : Rel sh I b 0) (hb : b ≤ 10000) {i ga gb : Nat} (hi : i + 5 ≤ n) (g1 : ga + 4 ≤ 600000) (g2 : gb + 27 ≤ 7302250) (k : ∀ sh2 Z L2 ga2 gb2, ga2 ≤ ga + 4 → gb2 ≤ gb + 27 → Sh sh2 → Rel sh2 Z (b + 1) 0 → K 1149 [some (vX a), some (vR 0), some (vR 44), some (vI (i : Int))] [] (sh2, Z, L2) (ga2, gb2)) : K 719 [some (vX a), some (vR 0), some (vR 44), some (vI (i : Int))] [] (sh, I, L) (ga, gb) := by
  refine hK.1 719 [some (vX a), some (vR 0), some (vR 44), some (vI (i : Int))] [] (sh, I, L) (ga, gb) ?_
  refine hK.1 720 [some (vX a), some (vR 0), some (vR 44), some (vI (i : Int))] [vR 0] (sh, I, L) (ga, gb) ?_
  refine hK.1 721 [some (vX a), some (vR 0), some (vR 44), some (vI (i : Int))] [vX a, vR 0] (sh, I, L) (ga, gb) ?_
  refine hK.1 722 [some (vX a), some (vR 0), some (vR 44), some (vI (i : Int))] [vI (i : Int), vX a, vR 0] (sh, I, L) (ga, gb) ?_
  refine hK.1 723 [some (vX a), some (vR 0), some (vR 44), some (vI (i : Int))] [vI 1, vI (i : Int), vX a, vR 0] (sh, I, L) (ga, gb) ?_
  refine hK.1 724 [some (vX a), some (vR 0), some (vR 44), some (vI (i : Int))] [vI ((i : Int) + 1), vX a, vR 0] (sh, I, L) (ga, gb) ?_
  refine And.intro ⟨rfl, by omega, by omega⟩ ?_
  refine hK.1 725 [some (vX a), some (vR 0), some (vR 44), some (vI (i : Int))] [vI (xs (((i : Int) + 1)).toNat).toInt, vR 0] (sh, I, L) (ga, gb) ?_
  refine hK.1 726 [some (vX a), some (vR 0), some (vR 44), some (vI (i : Int))] [vX a, vI (xs (((i : Int) + 1)).toNat).toInt, vR 0] (sh, I, L) (ga, gb) ?_
  refine hK.1 727 [some (vX a), some (vR 0), some (vR 44), some (vI (i : Int))] [vI (i : Int), vX a, vI (xs (((i : Int) + 1)).toNat).toInt, vR 0] (sh, I, L) (ga, gb) ?_
  refine hK.1 728 [some (vX a), some (vR 0), some (vR 44), some (vI (i : Int))] [vI 2, vI (i : Int), vX a, vI (xs (((i : Int) + 1)).toNat).toInt, vR 0] (sh, I, L) (ga, gb) ?_
  refine hK.1 729 [some (vX a), some (vR 0), some (vR 44), some (vI (i : Int))] [vI ((i : Int) + 2), vX a, vI (xs (((i : Int) + 1)).toNat).toInt, vR 0] (sh, I, L) (ga, gb) ?_
  refine And.intro ⟨rfl, by omega, by omega⟩ ?_
  refine hK.1 730 [some (vX a), some (vR 0), some (vR 44), some (vI (i : Int))] [vI (xs (((i : Int) + 2)).toNat).toInt, vI (xs (((i : Int) + 1)).toNat).toInt, vR 0] (sh, I, L) (ga, gb) ?_
  refine hK.1 731 [some (vX a), some (vR 0), some (vR 44), some (vI (i : Int))] [vX a, vI (xs (((i : Int) + 2)).toNat).toInt, vI (xs (((i : Int) + 1)).toNat).toInt, vR 0] (sh, I, L) (ga, gb) ?_
  refine hK.1 732 [some (vX a), some (vR 0), some (vR 44), some (vI (i : Int))] [vI (i : Int), vX a, vI (xs (((i : Int) + 2)).toNat).toInt, vI (xs (((i : Int) + 1)).toNat).toInt, vR 0] (sh, I, L) (ga, gb) ?_
  refine hK.1 733 [some (vX a), some (vR 0), some (vR 44), some (vI (i : Int))] [vI 3, vI (i : Int), vX a, vI (xs (((i : Int) + 2)).toNat).toInt, vI (xs (((i : Int) + 1)).toNat).toInt, vR 0] (sh, I, L) (ga, gb) ?_
  refine hK.1 734 [some (vX a), some (vR 0), some (vR 44), some (vI (i : Int))] [vI ((i : Int) + 3), vX a, vI (xs (((i : Int) + 2)).toNat).toInt, vI (xs (((i : Int) + 1)).toNat).toInt, vR 0] (sh, I, L) (ga, gb) ?_
  refine And.intro ⟨rfl, by omega, by omega⟩ ?_
  refine hK.1 735 [some (vX a), some (vR 0), some (vR 44), some (vI (i : Int))] [vI (xs (((i : Int) + 3)).toNat).toInt, vI (xs (((i : Int) + 2)).toNat).toInt, vI (xs (((i : Int) + 1)).toNat).toInt, vR 0] (sh, I, L) (ga, gb) ?_
  refine And.intro ⟨sk_0 hs, Nat.le_of_ble_eq_true rfl, Nat.le_of_ble_eq_true rfl, by show ga + 0 ≤ 600000; omega, by show gb + 0 ≤ 7302250; omega⟩ ?_
  refine (pr_lack (L := L) hs R (on_r (xs (((i : Int) + 1)).toNat)) (on_r (xs (((i : Int) + 2)).toNat)) (on_r (xs (((i : Int) + 3)).toNat))) _ (fun x mm nx => ?_)
  obtain ⟨sh1, J1, L1⟩ := mm
  refine hK.1 738 [some (vX a), some (vR 0), some (vR 44), some (vI (i : Int))] [vI x] (sh1, J1, L1) (ga + 0, gb + 0) ?_
  refine hK.1 739 [some (vX a), some (vR 0), some (vR 44), some (vI (i : Int))] [vR 44, vI x] (sh1, J1, L1) (ga + 0, gb + 0) ?_
  refine hK.1 740 [some (vX a), some (vR 0), some (vR 44), some (vI (i : Int))] [vX a, vR 44, vI x] (sh1, J1, L1) (ga + 0, gb + 0) ?_
  refine hK.1 741 [some (vX a), some (vR 0), some (vR 44), some (vI (i : Int))] [vI (i : Int), vX a, vR 44, vI x] (sh1, J1, L1) (ga + 0, gb + 0) ?_
  refine hK.1 742 [some (vX a), some (vR 0), some (vR 44), some (vI (i : Int))] [vI 1, vI (i : Int), vX a, vR 44, vI x] (sh1, J1, L1) (ga + 0, gb + 0) ?_
  refine hK.1 743 [some (vX a), some (vR 0), some (vR 44), some (vI (i : Int))] [vI ((i : Int) + 1), vX a, vR 44, vI x] (sh1, J1, L1) (ga + 0, gb + 0) ?_
  refine And.intro ⟨rfl, by omega, by omega⟩ ?_
  refine hK.1 744 [some (vX a), some (vR 0), some (vR 44), some (vI (i : Int))] [vI (xs (((i : Int) + 1)).toNat).toInt, vR 44, vI x] (sh1, J1, L1) (ga + 0, gb + 0) ?_
  refine hK.1 745 [some (vX a), some (vR 0), some (vR 44), some (vI (i : Int))] [vX a, vI (xs (((i : Int) + 1)).toNat).toInt, vR 44, vI x] (sh1, J1, L1) (ga + 0, gb + 0) ?_
  refine hK.1 746 [some (vX a), some (vR 0), some (vR 44), some (vI (i : Int))] [vI (i : Int), vX a, vI (xs (((i : Int) + 1)).toNat).toInt, vR 44, vI x] (sh1, J1, L1) (ga + 0, gb + 0) ?_
  refine hK.1 747 [some (vX a), some (vR 0), some (vR 44), some (vI (i : Int))] [vI 2, vI (i : Int), vX a, vI (xs (((i : Int) + 1)).toNat).toInt, vR 44, vI x] (sh1, J1, L1) (ga + 0, gb + 0) ?_
  refine hK.1 748 [some (vX a), some (vR 0), some (vR 44), some (vI (i : Int))] [vI ((i : Int) + 2), vX a, vI (xs (((i : Int) + 1)).toNat).toInt, vR 44, vI x] (sh1, J1, L1) (ga + 0, gb + 0) ?_
  refine And.intro ⟨rfl, by omega, by omega⟩ ?_
  refine hK.1 749 [some (vX a), some (vR 0), some (vR 44), some (vI (i : Int))] [vI (xs (((i : Int) + 2)).toNat).toInt, vI (xs (((i : Int) + 1)).toNat).toInt, vR 44, vI x] (sh1, J1, L1) (ga + 0, gb + 0) ?_
  refine hK.1 750 [some (vX a), some (vR 0), some (vR 44), some (vI (i : Int))] [vX a, vI (xs (((i : Int) + 2)).toNat).toInt, vI (xs (((i : Int) + 1)).toNat).toInt, vR 44, vI x] (sh1, J1, L1) (ga + 0, gb + 0) ?_
  refine hK.1 751 [some (vX a), some (vR 0), some (vR 44), some (vI (i : Int))] [vI (i : Int), vX a, vI (xs (((i : Int) + 2)).toNat).toInt, vI (xs (((i : Int) + 1)).toNat).toInt, vR 44, vI x] (sh1, J1, L1) (ga + 0, gb + 0) ?_
  refine hK.1 752 [some (vX a), some (vR 0), some (vR 44), some (vI (i : Int))] [vI 3, vI (i : Int), vX a, vI (xs (((i : Int) + 2)).toNat).toInt, vI (xs (((i : Int) + 1)).toNat).toInt, vR 44, vI x] (sh1, J1, L1) (ga + 0, gb + 0) ?_
  refine hK.1 753 [some (vX a), some (vR 0), some (vR 44), some (vI (i : Int))] [vI ((i : Int) + 3), vX a, vI (xs (((i : Int) + 2)).toNat).toInt, vI (xs (((i : Int) + 1)).toNat).toInt, vR 44, vI x] (sh1, J1, L1) (ga + 0, gb + 0) ?_
  refine And.intro ⟨rfl, by omega, by omega⟩ ?_
  refine hK.1 754 [some (vX a), some (vR 0), some (vR 44), some (vI (i : Int))] [vI (xs (((i : Int) + 3)).toNat).toInt, vI (xs (((i : Int) + 2)).toNat).toInt, vI (xs (((i : Int) + 1)).toNat).toInt, vR 44, vI x] (sh1, J1, L1) (ga + 0, gb + 0) ?_
  refine And.intro ⟨sk_44 nx.1, Nat.le_of_ble_eq_true rfl, Nat.le_of_ble_eq_true rfl, by show ga + 0 + 0 ≤ 600000; omega, by show gb + 0 + 0 ≤ 7302250; omega⟩ (nx.2 _ (fun sh2 Z L2 hs2 R2 => ?_))
  refine hK.1 757 [some (vX a), some (vR 0), some (vR 44), some (vI (i : Int))] [vI x, vI x] (sh2, Z, L2) (ga + 0 + 0, gb + 0 + 0) ?_
  exact And.intro rfl (k _ _ _ _ _ (by omega) (by omega) hs2 R2)
set_option maxRecDepth 4000 in
theorem lc_18 (hK : oCl (tb_L a n xs) Q K) {sh : oS} {I : Nat → Nat → Int} {L : Nat → Nat → Int64} (hs : Sh sh) {b : Nat} (R : Rel sh I b 0) (hb : b ≤ 10000) {i ga gb : Nat} (hi : i + 5 ≤ n) (g1 : ga + 4 ≤ 600000) (g2 : gb + 27 ≤ 7302250) (k : ∀ sh2 Z L2 ga2 gb2, ga2 ≤ ga + 4 → gb2 ≤ gb + 27 → Sh sh2 → Rel sh2 Z (b + 1) 0 → K 1149 [some (vX a), some (vR 0), some (vR 44), some (vI (i : Int))] [] (sh2, Z, L2) (ga2, gb2)) : K 762 [some (vX a), some (vR 0), some (vR 44), some (vI (i : Int))] [] (sh, I, L) (ga, gb) := by
  refine hK.1 762 [some (vX a), some (vR 0), some (vR 44), some (vI (i : Int))] [] (sh, I, L) (ga, gb) ?_
  refine hK.1 763 [some (vX a), some (vR 0), some (vR 44), some (vI (i : Int))] [vR 0] (sh, I, L) (ga, gb) ?_
  refine hK.1 764 [some (vX a), some (vR 0), some (vR 44), some (vI (i : Int))] [vX a, vR 0] (sh, I, L) (ga, gb) ?_
  refine hK.1 765 [some (vX a), some (vR 0), some (vR 44), some (vI (i : Int))] [vI (i : Int), vX a, vR 0] (sh, I, L) (ga, gb) ?_
  refine hK.1 766 [some (vX a), some (vR 0), some (vR 44), some (vI (i : Int))] [vI 1, vI (i : Int), vX a, vR 0] (sh, I, L) (ga, gb) ?_
  refine hK.1 767 [some (vX a), some (vR 0), some (vR 44), some (vI (i : Int))] [vI ((i : Int) + 1), vX a, vR 0] (sh, I, L) (ga, gb) ?_
  refine And.intro ⟨rfl, by omega, by omega⟩ ?_
  refine hK.1 768 [some (vX a), some (vR 0), some (vR 44), some (vI (i : Int))] [vI (xs (((i : Int) + 1)).toNat).toInt, vR 0] (sh, I, L) (ga, gb) ?_
  refine hK.1 769 [some (vX a), some (vR 0), some (vR 44), some (vI (i : Int))] [vX a, vI (xs (((i : Int) + 1)).toNat).toInt, vR 0] (sh, I, L) (ga, gb) ?_
  refine hK.1 770 [some (vX a), some (vR 0), some (vR 44), some (vI (i : Int))] [vI (i : Int), vX a, vI (xs (((i : Int) + 1)).toNat).toInt, vR 0] (sh, I, L) (ga, gb) ?_
  refine hK.1 771 [some (vX a), some (vR 0), some (vR 44), some (vI (i : Int))] [vI 2, vI (i : Int), vX a, vI (xs (((i : Int) + 1)).toNat).toInt, vR 0] (sh, I, L) (ga, gb) ?_
  refine hK.1 772 [some (vX a), some (vR 0), some (vR 44), some (vI (i : Int))] [vI ((i : Int) + 2), vX a, vI (xs (((i : Int) + 1)).toNat).toInt, vR 0] (sh, I, L) (ga, gb) ?_
  refine And.intro ⟨rfl, by omega, by omega⟩ ?_
  refine hK.1 773 [some (vX a), some (vR 0), some (vR 44), some (vI (i : Int))] [vI (xs (((i : Int) + 2)).toNat).toInt, vI (xs (((i : Int) + 1)).toNat).toInt, vR 0] (sh, I, L) (ga, gb) ?_
  refine hK.1 774 [some (vX a), some (vR 0), some (vR 44), some (vI (i : Int))] [vX a, vI (xs (((i : Int) + 2)).toNat).toInt, vI (xs (((i : Int) + 1)).toNat).toInt, vR 0] (sh, I, L) (ga, gb) ?_
  refine hK.1 775 [some (vX a), some (vR 0), some (vR 44), some (vI (i : Int))] [vI (i : Int), vX a, vI (xs (((i : Int) + 2)).toNat).toInt, vI (xs (((i : Int) + 1)).toNat).toInt, vR 0] (sh, I, L) (ga, gb) ?_
  refine hK.1 776 [some (vX a), some (vR 0), some (vR 44), some (vI (i : Int))] [vI 3, vI (i : Int), vX a, vI (xs (((i : Int) + 2)).toNat).toInt, vI (xs (((i : Int) + 1)).toNat).toInt, vR 0] (sh, I, L) (ga, gb) ?_
  refine hK.1 777 [some (vX a), some (vR 0), some (vR 44), some (vI (i : Int))] [vI ((i : Int) + 3), vX a, vI (xs (((i : Int) + 2)).toNat).toInt, vI (xs (((i : Int) + 1)).toNat).toInt, vR 0] (sh, I, L) (ga, gb) ?_
  refine And.intro ⟨rfl, by omega, by omega⟩ ?_
  refine hK.1 778 [some (vX a), some (vR 0), some (vR 44), some (vI (i : Int))] [vI (xs (((i : Int) + 3)).toNat).toInt, vI (xs (((i : Int) + 2)).toNat).toInt, vI (xs (((i : Int) + 1)).toNat).toInt, vR 0] (sh, I, L) (ga, gb) ?_
  refine hK.1 779 [some (vX a), some (vR 0), some (vR 44), some (vI (i : Int))] [vX a, vI (xs (((i : Int) + 3)).toNat).toInt, vI (xs (((i : Int) + 2)).toNat).toInt, vI (xs (((i : Int) + 1)).toNat).toInt, vR 0] (sh, I, L) (ga, gb) ?_
  refine hK.1 780 [some (vX a), some (vR 0), some (vR 44), some (vI (i : Int))] [vI (i : Int), vX a, vI (xs (((i : Int) + 3)).toNat).toInt, vI (xs (((i : Int) + 2)).toNat).toInt, vI (xs (((i : Int) + 1)).toNat).toInt, vR 0] (sh, I, L) (ga, gb) ?_
  refine hK.1 781 [some (vX a), some (vR 0), some (vR 44), some (vI (i : Int))] [vI 4, vI (i : Int), vX a, vI (xs (((i : Int) + 3)).toNat).toInt, vI (xs (((i : Int) + 2)).toNat).toInt, vI (xs (((i : Int) + 1)).toNat).toInt, vR 0] (sh, I, L) (ga, gb) ?_
  refine hK.1 782 [some (vX a), some (vR 0), some (vR 44), some (vI (i : Int))] [vI ((i : Int) + 4), vX a, vI (xs (((i : Int) + 3)).toNat).toInt, vI (xs (((i : Int) + 2)).toNat).toInt, vI (xs (((i : Int) + 1)).toNat).toInt, vR 0] (sh, I, L) (ga, gb) ?_
  refine And.intro ⟨rfl, by omega, by omega⟩ ?_
  refine hK.1 783 [some (vX a), some (vR 0), some (vR 44), some (vI (i : Int))] [vI (xs (((i : Int) + 4)).toNat).toInt, vI (xs (((i : Int) + 3)).toNat).toInt, vI (xs (((i : Int) + 2)).toNat).toInt, vI (xs (((i : Int) + 1)).toNat).toInt, vR 0] (sh, I, L) (ga, gb) ?_
  refine And.intro ⟨sk_0 hs, Nat.le_of_ble_eq_true rfl, Nat.le_of_ble_eq_true rfl, by show ga + 0 ≤ 600000; omega, by show gb + 0 ≤ 7302250; omega⟩ ?_
  refine (pr_mean (L := L) hs R (on_r (xs (((i : Int) + 1)).toNat)) (on_r (xs (((i : Int) + 2)).toNat)) (on_r (xs (((i : Int) + 3)).toNat)) (on_r (xs (((i : Int) + 4)).toNat))) _ (fun x mm nx => ?_)
  obtain ⟨sh1, J1, L1⟩ := mm
  refine hK.1 786 [some (vX a), some (vR 0), some (vR 44), some (vI (i : Int))] [vI x] (sh1, J1, L1) (ga + 0, gb + 0) ?_
  refine hK.1 787 [some (vX a), some (vR 0), some (vR 44), some (vI (i : Int))] [vR 44, vI x] (sh1, J1, L1) (ga + 0, gb + 0) ?_
  refine hK.1 788 [some (vX a), some (vR 0), some (vR 44), some (vI (i : Int))] [vX a, vR 44, vI x] (sh1, J1, L1) (ga + 0, gb + 0) ?_
  refine hK.1 789 [some (vX a), some (vR 0), some (vR 44), some (vI (i : Int))] [vI (i : Int), vX a, vR 44, vI x] (sh1, J1, L1) (ga + 0, gb + 0) ?_
  refine hK.1 790 [some (vX a), some (vR 0), some (vR 44), some (vI (i : Int))] [vI 1, vI (i : Int), vX a, vR 44, vI x] (sh1, J1, L1) (ga + 0, gb + 0) ?_
  refine hK.1 791 [some (vX a), some (vR 0), some (vR 44), some (vI (i : Int))] [vI ((i : Int) + 1), vX a, vR 44, vI x] (sh1, J1, L1) (ga + 0, gb + 0) ?_
  refine And.intro ⟨rfl, by omega, by omega⟩ ?_
  refine hK.1 792 [some (vX a), some (vR 0), some (vR 44), some (vI (i : Int))] [vI (xs (((i : Int) + 1)).toNat).toInt, vR 44, vI x] (sh1, J1, L1) (ga + 0, gb + 0) ?_
  refine hK.1 793 [some (vX a), some (vR 0), some (vR 44), some (vI (i : Int))] [vX a, vI (xs (((i : Int) + 1)).toNat).toInt, vR 44, vI x] (sh1, J1, L1) (ga + 0, gb + 0) ?_
  refine hK.1 794 [some (vX a), some (vR 0), some (vR 44), some (vI (i : Int))] [vI (i : Int), vX a, vI (xs (((i : Int) + 1)).toNat).toInt, vR 44, vI x] (sh1, J1, L1) (ga + 0, gb + 0) ?_
  refine hK.1 795 [some (vX a), some (vR 0), some (vR 44), some (vI (i : Int))] [vI 2, vI (i : Int), vX a, vI (xs (((i : Int) + 1)).toNat).toInt, vR 44, vI x] (sh1, J1, L1) (ga + 0, gb + 0) ?_
  refine hK.1 796 [some (vX a), some (vR 0), some (vR 44), some (vI (i : Int))] [vI ((i : Int) + 2), vX a, vI (xs (((i : Int) + 1)).toNat).toInt, vR 44, vI x] (sh1, J1, L1) (ga + 0, gb + 0) ?_
  refine And.intro ⟨rfl, by omega, by omega⟩ ?_
  refine hK.1 797 [some (vX a), some (vR 0), some (vR 44), some (vI (i : Int))] [vI (xs (((i : Int) + 2)).toNat).toInt, vI (xs (((i : Int) + 1)).toNat).toInt, vR 44, vI x] (sh1, J1, L1) (ga + 0, gb + 0) ?_
  refine hK.1 798 [some (vX a), some (vR 0), some (vR 44), some (vI (i : Int))] [vX a, vI (xs (((i : Int) + 2)).toNat).toInt, vI (xs (((i : Int) + 1)).toNat).toInt, vR 44, vI x] (sh1, J1, L1) (ga + 0, gb + 0) ?_
  refine hK.1 799 [some (vX a), some (vR 0), some (vR 44), some (vI (i : Int))] [vI (i : Int), vX a, vI (xs (((i : Int) + 2)).toNat).toInt, vI (xs (((i : Int) + 1)).toNat).toInt, vR 44, vI x] (sh1, J1, L1) (ga + 0, gb + 0) ?_
  refine hK.1 800 [some (vX a), some (vR 0), some (vR 44), some (vI (i : Int))] [vI 3, vI (i : Int), vX a, vI (xs (((i : Int) + 2)).toNat).toInt, vI (xs (((i : Int) + 1)).toNat).toInt, vR 44, vI x] (sh1, J1, L1) (ga + 0, gb + 0) ?_
  refine hK.1 801 [some (vX a), some (vR 0), some (vR 44), some (vI (i : Int))] [vI ((i : Int) + 3), vX a, vI (xs (((i : Int) + 2)).toNat).toInt, vI (xs (((i : Int) + 1)).toNat).toInt, vR 44, vI x] (sh1, J1, L1) (ga + 0, gb + 0) ?_
  refine And.intro ⟨rfl, by omega, by omega⟩ ?_
  refine hK.1 802 [some (vX a), some (vR 0), some (vR 44), some (vI (i : Int))] [vI (xs (((i : Int) + 3)).toNat).toInt, vI (xs (((i : Int) + 2)).toNat).toInt, vI (xs (((i : Int) + 1)).toNat).toInt, vR 44, vI x] (sh1, J1, L1) (ga + 0, gb + 0) ?_
  refine hK.1 803 [some (vX a), some (vR 0), some (vR 44), some (vI (i : Int))] [vX a, vI (xs (((i : Int) + 3)).toNat).toInt, vI (xs (((i : Int) + 2)).toNat).toInt, vI (xs (((i : Int) + 1)).toNat).toInt, vR 44, vI x] (sh1, J1, L1) (ga + 0, gb + 0) ?_
  refine hK.1 804 [some (vX a), some (vR 0), some (vR 44), some (vI (i : Int))] [vI (i : Int), vX a, vI (xs (((i : Int) + 3)).toNat).toInt, vI (xs (((i : Int) + 2)).toNat).toInt, vI (xs (((i : Int) + 1)).toNat).toInt, vR 44, vI x] (sh1, J1, L1) (ga + 0, gb + 0) ?_
  refine hK.1 805 [some (vX a), some (vR 0), some (vR 44), some (vI (i : Int))] [vI 4, vI (i : Int), vX a, vI (xs (((i : Int) + 3)).toNat).toInt, vI (xs (((i : Int) + 2)).toNat).toInt, vI (xs (((i : Int) + 1)).toNat).toInt, vR 44, vI x] (sh1, J1, L1) (ga + 0, gb + 0) ?_
  refine hK.1 806 [some (vX a), some (vR 0), some (vR 44), some (vI (i : Int))] [vI ((i : Int) + 4), vX a, vI (xs (((i : Int) + 3)).toNat).toInt, vI (xs (((i : Int) + 2)).toNat).toInt, vI (xs (((i : Int) + 1)).toNat).toInt, vR 44, vI x] (sh1, J1, L1) (ga + 0, gb + 0) ?_
  refine And.intro ⟨rfl, by omega, by omega⟩ ?_
  refine hK.1 807 [some (vX a), some (vR 0), some (vR 44), some (vI (i : Int))] [vI (xs (((i : Int) + 4)).toNat).toInt, vI (xs (((i : Int) + 3)).toNat).toInt, vI (xs (((i : Int) + 2)).toNat).toInt, vI (xs (((i : Int) + 1)).toNat).toInt, vR 44, vI x] (sh1, J1, L1) (ga + 0, gb + 0) ?_
  refine And.intro ⟨sk_44 nx.1, Nat.le_of_ble_eq_true rfl, Nat.le_of_ble_eq_true rfl, by show ga + 0 + 0 ≤ 600000; omega, by show gb + 0 + 0 ≤ 7302250; omega⟩ (nx.2 _ (fun sh2 Z L2 hs2 R2 => ?_))
  refine hK.1 810 [some (vX a), some (vR 0), some (vR 44), some (vI (i : Int))] [vI x, vI x] (sh2, Z, L2) (ga + 0 + 0, gb + 0 + 0) ?_
  exact And.intro rfl (k _ _ _ _ _ (by omega) (by omega) hs2 R2)
set_option maxRecDepth 4000 in
theorem lc_19 (hK : oCl (tb_L a n xs) Q K) {sh : oS} {I : Nat → Nat → Int} {L : Nat → Nat → Int64} (hs : Sh sh) {b : Nat} (R : Rel sh I b 0) (hb : b ≤ 10000) {i ga gb : Nat} (hi : i + 5 ≤ n) (g1 : ga + 4 ≤ 600000) (g2 : gb + 27 ≤ 7302250) (k : ∀ sh2 Z L2 ga2 gb2, ga2 ≤ ga + 4 → gb2 ≤ gb + 27 → Sh sh2 → Rel sh2 Z (b + 1) 0 → K 1149 [some (vX a), some (vR 0), some (vR 44), some (vI (i : Int))] [] (sh2, Z, L2) (ga2, gb2)) : K 815 [some (vX a), some (vR 0), some (vR 44), some (vI (i : Int))] [] (sh, I, L) (ga, gb) := by
  refine hK.1 815 [some (vX a), some (vR 0), some (vR 44), some (vI (i : Int))] [] (sh, I, L) (ga, gb) ?_
  refine hK.1 816 [some (vX a), some (vR 0), some (vR 44), some (vI (i : Int))] [vR 0] (sh, I, L) (ga, gb) ?_
  refine hK.1 817 [some (vX a), some (vR 0), some (vR 44), some (vI (i : Int))] [vX a, vR 0] (sh, I, L) (ga, gb) ?_
  refine hK.1 818 [some (vX a), some (vR 0), some (vR 44), some (vI (i : Int))] [vI (i : Int), vX a, vR 0] (sh, I, L) (ga, gb) ?_
  refine hK.1 819 [some (vX a), some (vR 0), some (vR 44), some (vI (i : Int))] [vI 1, vI (i : Int), vX a, vR 0] (sh, I, L) (ga, gb) ?_
  refine hK.1 820 [some (vX a), some (vR 0), some (vR 44), some (vI (i : Int))] [vI ((i : Int) + 1), vX a, vR 0] (sh, I, L) (ga, gb) ?_
  refine And.intro ⟨rfl, by omega, by omega⟩ ?_
  refine hK.1 821 [some (vX a), some (vR 0), some (vR 44), some (vI (i : Int))] [vI (xs (((i : Int) + 1)).toNat).toInt, vR 0] (sh, I, L) (ga, gb) ?_
  refine hK.1 822 [some (vX a), some (vR 0), some (vR 44), some (vI (i : Int))] [vX a, vI (xs (((i : Int) + 1)).toNat).toInt, vR 0] (sh, I, L) (ga, gb) ?_
  refine hK.1 823 [some (vX a), some (vR 0), some (vR 44), some (vI (i : Int))] [vI (i : Int), vX a, vI (xs (((i : Int) + 1)).toNat).toInt, vR 0] (sh, I, L) (ga, gb) ?_
  refine hK.1 824 [some (vX a), some (vR 0), some (vR 44), some (vI (i : Int))] [vI 2, vI (i : Int), vX a, vI (xs (((i : Int) + 1)).toNat).toInt, vR 0] (sh, I, L) (ga, gb) ?_
  refine hK.1 825 [some (vX a), some (vR 0), some (vR 44), some (vI (i : Int))] [vI ((i : Int) + 2), vX a, vI (xs (((i : Int) + 1)).toNat).toInt, vR 0] (sh, I, L) (ga, gb) ?_
  refine And.intro ⟨rfl, by omega, by omega⟩ ?_
  refine hK.1 826 [some (vX a), some (vR 0), some (vR 44), some (vI (i : Int))] [vI (xs (((i : Int) + 2)).toNat).toInt, vI (xs (((i : Int) + 1)).toNat).toInt, vR 0] (sh, I, L) (ga, gb) ?_
  refine hK.1 827 [some (vX a), some (vR 0), some (vR 44), some (vI (i : Int))] [vX a, vI (xs (((i : Int) + 2)).toNat).toInt, vI (xs (((i : Int) + 1)).toNat).toInt, vR 0] (sh, I, L) (ga, gb) ?_
  refine hK.1 828 [some (vX a), some (vR 0), some (vR 44), some (vI (i : Int))] [vI (i : Int), vX a, vI (xs (((i : Int) + 2)).toNat).toInt, vI (xs (((i : Int) + 1)).toNat).toInt, vR 0] (sh, I, L) (ga, gb) ?_
  refine hK.1 829 [some (vX a), some (vR 0), some (vR 44), some (vI (i : Int))] [vI 3, vI (i : Int), vX a, vI (xs (((i : Int) + 2)).toNat).toInt, vI (xs (((i : Int) + 1)).toNat).toInt, vR 0] (sh, I, L) (ga, gb) ?_
  refine hK.1 830 [some (vX a), some (vR 0), some (vR 44), some (vI (i : Int))] [vI ((i : Int) + 3), vX a, vI (xs (((i : Int) + 2)).toNat).toInt, vI (xs (((i : Int) + 1)).toNat).toInt, vR 0] (sh, I, L) (ga, gb) ?_
  refine And.intro ⟨rfl, by omega, by omega⟩ ?_
  refine hK.1 831 [some (vX a), some (vR 0), some (vR 44), some (vI (i : Int))] [vI (xs (((i : Int) + 3)).toNat).toInt, vI (xs (((i : Int) + 2)).toNat).toInt, vI (xs (((i : Int) + 1)).toNat).toInt, vR 0] (sh, I, L) (ga, gb) ?_
  refine And.intro ⟨sk_0 hs, Nat.le_of_ble_eq_true rfl, Nat.le_of_ble_eq_true rfl, by show ga + 0 ≤ 600000; omega, by show gb + 0 ≤ 7302250; omega⟩ ?_
  refine (pr_worst (L := L) hs R (on_r (xs (((i : Int) + 1)).toNat)) (on_r (xs (((i : Int) + 2)).toNat)) (on_r (xs (((i : Int) + 3)).toNat))) _ (fun x mm nx => ?_)
  obtain ⟨sh1, J1, L1⟩ := mm
  refine hK.1 834 [some (vX a), some (vR 0), some (vR 44), some (vI (i : Int))] [vI x] (sh1, J1, L1) (ga + 0, gb + 0) ?_
  refine hK.1 835 [some (vX a), some (vR 0), some (vR 44), some (vI (i : Int))] [vR 44, vI x] (sh1, J1, L1) (ga + 0, gb + 0) ?_
  refine hK.1 836 [some (vX a), some (vR 0), some (vR 44), some (vI (i : Int))] [vX a, vR 44, vI x] (sh1, J1, L1) (ga + 0, gb + 0) ?_
  refine hK.1 837 [some (vX a), some (vR 0), some (vR 44), some (vI (i : Int))] [vI (i : Int), vX a, vR 44, vI x] (sh1, J1, L1) (ga + 0, gb + 0) ?_
  refine hK.1 838 [some (vX a), some (vR 0), some (vR 44), some (vI (i : Int))] [vI 1, vI (i : Int), vX a, vR 44, vI x] (sh1, J1, L1) (ga + 0, gb + 0) ?_
  refine hK.1 839 [some (vX a), some (vR 0), some (vR 44), some (vI (i : Int))] [vI ((i : Int) + 1), vX a, vR 44, vI x] (sh1, J1, L1) (ga + 0, gb + 0) ?_
  refine And.intro ⟨rfl, by omega, by omega⟩ ?_
  refine hK.1 840 [some (vX a), some (vR 0), some (vR 44), some (vI (i : Int))] [vI (xs (((i : Int) + 1)).toNat).toInt, vR 44, vI x] (sh1, J1, L1) (ga + 0, gb + 0) ?_
  refine hK.1 841 [some (vX a), some (vR 0), some (vR 44), some (vI (i : Int))] [vX a, vI (xs (((i : Int) + 1)).toNat).toInt, vR 44, vI x] (sh1, J1, L1) (ga + 0, gb + 0) ?_
  refine hK.1 842 [some (vX a), some (vR 0), some (vR 44), some (vI (i : Int))] [vI (i : Int), vX a, vI (xs (((i : Int) + 1)).toNat).toInt, vR 44, vI x] (sh1, J1, L1) (ga + 0, gb + 0) ?_
  refine hK.1 843 [some (vX a), some (vR 0), some (vR 44), some (vI (i : Int))] [vI 2, vI (i : Int), vX a, vI (xs (((i : Int) + 1)).toNat).toInt, vR 44, vI x] (sh1, J1, L1) (ga + 0, gb + 0) ?_
  refine hK.1 844 [some (vX a), some (vR 0), some (vR 44), some (vI (i : Int))] [vI ((i : Int) + 2), vX a, vI (xs (((i : Int) + 1)).toNat).toInt, vR 44, vI x] (sh1, J1, L1) (ga + 0, gb + 0) ?_
  refine And.intro ⟨rfl, by omega, by omega⟩ ?_
  refine hK.1 845 [some (vX a), some (vR 0), some (vR 44), some (vI (i : Int))] [vI (xs (((i : Int) + 2)).toNat).toInt, vI (xs (((i : Int) + 1)).toNat).toInt, vR 44, vI x] (sh1, J1, L1) (ga + 0, gb + 0) ?_
  refine hK.1 846 [some (vX a), some (vR 0), some (vR 44), some (vI (i : Int))] [vX a, vI (xs (((i : Int) + 2)).toNat).toInt, vI (xs (((i : Int) + 1)).toNat).toInt, vR 44, vI x] (sh1, J1, L1) (ga + 0, gb + 0) ?_
  refine hK.1 847 [some (vX a), some (vR 0), some (vR 44), some (vI (i : Int))] [vI (i : Int), vX a, vI (xs (((i : Int) + 2)).toNat).toInt, vI (xs (((i : Int) + 1)).toNat).toInt, vR 44, vI x] (sh1, J1, L1) (ga + 0, gb + 0) ?_
  refine hK.1 848 [some (vX a), some (vR 0), some (vR 44), some (vI (i : Int))] [vI 3, vI (i : Int), vX a, vI (xs (((i : Int) + 2)).toNat).toInt, vI (xs (((i : Int) + 1)).toNat).toInt, vR 44, vI x] (sh1, J1, L1) (ga + 0, gb + 0) ?_
  refine hK.1 849 [some (vX a), some (vR 0), some (vR 44), some (vI (i : Int))] [vI ((i : Int) + 3), vX a, vI (xs (((i : Int) + 2)).toNat).toInt, vI (xs (((i : Int) + 1)).toNat).toInt, vR 44, vI x] (sh1, J1, L1) (ga + 0, gb + 0) ?_
  refine And.intro ⟨rfl, by omega, by omega⟩ ?_
  refine hK.1 850 [some (vX a), some (vR 0), some (vR 44), some (vI (i : Int))] [vI (xs (((i : Int) + 3)).toNat).toInt, vI (xs (((i : Int) + 2)).toNat).toInt, vI (xs (((i : Int) + 1)).toNat).toInt, vR 44, vI x] (sh1, J1, L1) (ga + 0, gb + 0) ?_
  refine And.intro ⟨sk_44 nx.1, Nat.le_of_ble_eq_true rfl, Nat.le_of_ble_eq_true rfl, by show ga + 0 + 0 ≤ 600000; omega, by show gb + 0 + 0 ≤ 7302250; omega⟩ (nx.2 _ (fun sh2 Z L2 hs2 R2 => ?_))
  refine hK.1 853 [some (vX a), some (vR 0), some (vR 44), some (vI (i : Int))] [vI x, vI x] (sh2, Z, L2) (ga + 0 + 0, gb + 0 + 0) ?_
  exact And.intro rfl (k _ _ _ _ _ (by omega) (by omega) hs2 R2)
set_option maxRecDepth 4000 in
theorem lc_20 (hK : oCl (tb_L a n xs) Q K) {sh : oS} {I : Nat → Nat → Int} {L : Nat → Nat → Int64} (hs : Sh sh) {b : Nat} (R : Rel sh I b 0) (hb : b ≤ 10000) {i ga gb : Nat} (hi : i + 5 ≤ n) (g1 : ga + 4 ≤ 600000) (g2 : gb + 27 ≤ 7302250) (k : ∀ sh2 Z L2 ga2 gb2, ga2 ≤ ga + 4 → gb2 ≤ gb + 27 → Sh sh2 → Rel sh2 Z (b + 1) 0 → K 1149 [some (vX a), some (vR 0), some (vR 44), some (vI (i : Int))] [] (sh2, Z, L2) (ga2, gb2)) : K 858 [some (vX a), some (vR 0), some (vR 44), some (vI (i : Int))] [] (sh, I, L) (ga, gb) := by
  refine hK.1 858 [some (vX a), some (vR 0), some (vR 44), some (vI (i : Int))] [] (sh, I, L) (ga, gb) ?_
  refine hK.1 859 [some (vX a), some (vR 0), some (vR 44), some (vI (i : Int))] [vR 0] (sh, I, L) (ga, gb) ?_
  refine hK.1 860 [some (vX a), some (vR 0), some (vR 44), some (vI (i : Int))] [vX a, vR 0] (sh, I, L) (ga, gb) ?_
  refine hK.1 861 [some (vX a), some (vR 0), some (vR 44), some (vI (i : Int))] [vI (i : Int), vX a, vR 0] (sh, I, L) (ga, gb) ?_
  refine hK.1 862 [some (vX a), some (vR 0), some (vR 44), some (vI (i : Int))] [vI 1, vI (i : Int), vX a, vR 0] (sh, I, L) (ga, gb) ?_
  refine hK.1 863 [some (vX a), some (vR 0), some (vR 44), some (vI (i : Int))] [vI ((i : Int) + 1), vX a, vR 0] (sh, I, L) (ga, gb) ?_
  refine And.intro ⟨rfl, by omega, by omega⟩ ?_
  refine hK.1 864 [some (vX a), some (vR 0), some (vR 44), some (vI (i : Int))] [vI (xs (((i : Int) + 1)).toNat).toInt, vR 0] (sh, I, L) (ga, gb) ?_
  refine hK.1 865 [some (vX a), some (vR 0), some (vR 44), some (vI (i : Int))] [vX a, vI (xs (((i : Int) + 1)).toNat).toInt, vR 0] (sh, I, L) (ga, gb) ?_
  refine hK.1 866 [some (vX a), some (vR 0), some (vR 44), some (vI (i : Int))] [vI (i : Int), vX a, vI (xs (((i : Int) + 1)).toNat).toInt, vR 0] (sh, I, L) (ga, gb) ?_
  refine hK.1 867 [some (vX a), some (vR 0), some (vR 44), some (vI (i : Int))] [vI 2, vI (i : Int), vX a, vI (xs (((i : Int) + 1)).toNat).toInt, vR 0] (sh, I, L) (ga, gb) ?_
  refine hK.1 868 [some (vX a), some (vR 0), some (vR 44), some (vI (i : Int))] [vI ((i : Int) + 2), vX a, vI (xs (((i : Int) + 1)).toNat).toInt, vR 0] (sh, I, L) (ga, gb) ?_
  refine And.intro ⟨rfl, by omega, by omega⟩ ?_
  refine hK.1 869 [some (vX a), some (vR 0), some (vR 44), some (vI (i : Int))] [vI (xs (((i : Int) + 2)).toNat).toInt, vI (xs (((i : Int) + 1)).toNat).toInt, vR 0] (sh, I, L) (ga, gb) ?_
  refine hK.1 870 [some (vX a), some (vR 0), some (vR 44), some (vI (i : Int))] [vX a, vI (xs (((i : Int) + 2)).toNat).toInt, vI (xs (((i : Int) + 1)).toNat).toInt, vR 0] (sh, I, L) (ga, gb) ?_
  refine hK.1 871 [some (vX a), some (vR 0), some (vR 44), some (vI (i : Int))] [vI (i : Int), vX a, vI (xs (((i : Int) + 2)).toNat).toInt, vI (xs (((i : Int) + 1)).toNat).toInt, vR 0] (sh, I, L) (ga, gb) ?_
  refine hK.1 872 [some (vX a), some (vR 0), some (vR 44), some (vI (i : Int))] [vI 3, vI (i : Int), vX a, vI (xs (((i : Int) + 2)).toNat).toInt, vI (xs (((i : Int) + 1)).toNat).toInt, vR 0] (sh, I, L) (ga, gb) ?_
  refine hK.1 873 [some (vX a), some (vR 0), some (vR 44), some (vI (i : Int))] [vI ((i : Int) + 3), vX a, vI (xs (((i : Int) + 2)).toNat).toInt, vI (xs (((i : Int) + 1)).toNat).toInt, vR 0] (sh, I, L) (ga, gb) ?_
  refine And.intro ⟨rfl, by omega, by omega⟩ ?_
  refine hK.1 874 [some (vX a), some (vR 0), some (vR 44), some (vI (i : Int))] [vI (xs (((i : Int) + 3)).toNat).toInt, vI (xs (((i : Int) + 2)).toNat).toInt, vI (xs (((i : Int) + 1)).toNat).toInt, vR 0] (sh, I, L) (ga, gb) ?_
  refine hK.1 875 [some (vX a), some (vR 0), some (vR 44), some (vI (i : Int))] [vX a, vI (xs (((i : Int) + 3)).toNat).toInt, vI (xs (((i : Int) + 2)).toNat).toInt, vI (xs (((i : Int) + 1)).toNat).toInt, vR 0] (sh, I, L) (ga, gb) ?_
  refine hK.1 876 [some (vX a), some (vR 0), some (vR 44), some (vI (i : Int))] [vI (i : Int), vX a, vI (xs (((i : Int) + 3)).toNat).toInt, vI (xs (((i : Int) + 2)).toNat).toInt, vI (xs (((i : Int) + 1)).toNat).toInt, vR 0] (sh, I, L) (ga, gb) ?_
  refine hK.1 877 [some (vX a), some (vR 0), some (vR 44), some (vI (i : Int))] [vI 4, vI (i : Int), vX a, vI (xs (((i : Int) + 3)).toNat).toInt, vI (xs (((i : Int) + 2)).toNat).toInt, vI (xs (((i : Int) + 1)).toNat).toInt, vR 0] (sh, I, L) (ga, gb) ?_
  refine hK.1 878 [some (vX a), some (vR 0), some (vR 44), some (vI (i : Int))] [vI ((i : Int) + 4), vX a, vI (xs (((i : Int) + 3)).toNat).toInt, vI (xs (((i : Int) + 2)).toNat).toInt, vI (xs (((i : Int) + 1)).toNat).toInt, vR 0] (sh, I, L) (ga, gb) ?_
  refine And.intro ⟨rfl, by omega, by omega⟩ ?_
  refine hK.1 879 [some (vX a), some (vR 0), some (vR 44), some (vI (i : Int))] [vI (xs (((i : Int) + 4)).toNat).toInt, vI (xs (((i : Int) + 3)).toNat).toInt, vI (xs (((i : Int) + 2)).toNat).toInt, vI (xs (((i : Int) + 1)).toNat).toInt, vR 0] (sh, I, L) (ga, gb) ?_
  refine And.intro ⟨sk_0 hs, Nat.le_of_ble_eq_true rfl, Nat.le_of_ble_eq_true rfl, by show ga + 0 ≤ 600000; omega, by show gb + 0 ≤ 7302250; omega⟩ ?_
  refine (pr_run (L := L) hs R (on_r (xs (((i : Int) + 1)).toNat)) (on_r (xs (((i : Int) + 2)).toNat)) (on_r (xs (((i : Int) + 3)).toNat)) (on_r (xs (((i : Int) + 4)).toNat))) _ (fun x mm nx => ?_)
  obtain ⟨sh1, J1, L1⟩ := mm
  refine hK.1 882 [some (vX a), some (vR 0), some (vR 44), some (vI (i : Int))] [vI x] (sh1, J1, L1) (ga + 0, gb + 0) ?_
  refine hK.1 883 [some (vX a), some (vR 0), some (vR 44), some (vI (i : Int))] [vR 44, vI x] (sh1, J1, L1) (ga + 0, gb + 0) ?_
  refine hK.1 884 [some (vX a), some (vR 0), some (vR 44), some (vI (i : Int))] [vX a, vR 44, vI x] (sh1, J1, L1) (ga + 0, gb + 0) ?_
  refine hK.1 885 [some (vX a), some (vR 0), some (vR 44), some (vI (i : Int))] [vI (i : Int), vX a, vR 44, vI x] (sh1, J1, L1) (ga + 0, gb + 0) ?_
  refine hK.1 886 [some (vX a), some (vR 0), some (vR 44), some (vI (i : Int))] [vI 1, vI (i : Int), vX a, vR 44, vI x] (sh1, J1, L1) (ga + 0, gb + 0) ?_
  refine hK.1 887 [some (vX a), some (vR 0), some (vR 44), some (vI (i : Int))] [vI ((i : Int) + 1), vX a, vR 44, vI x] (sh1, J1, L1) (ga + 0, gb + 0) ?_
  refine And.intro ⟨rfl, by omega, by omega⟩ ?_
  refine hK.1 888 [some (vX a), some (vR 0), some (vR 44), some (vI (i : Int))] [vI (xs (((i : Int) + 1)).toNat).toInt, vR 44, vI x] (sh1, J1, L1) (ga + 0, gb + 0) ?_
  refine hK.1 889 [some (vX a), some (vR 0), some (vR 44), some (vI (i : Int))] [vX a, vI (xs (((i : Int) + 1)).toNat).toInt, vR 44, vI x] (sh1, J1, L1) (ga + 0, gb + 0) ?_
  refine hK.1 890 [some (vX a), some (vR 0), some (vR 44), some (vI (i : Int))] [vI (i : Int), vX a, vI (xs (((i : Int) + 1)).toNat).toInt, vR 44, vI x] (sh1, J1, L1) (ga + 0, gb + 0) ?_
  refine hK.1 891 [some (vX a), some (vR 0), some (vR 44), some (vI (i : Int))] [vI 2, vI (i : Int), vX a, vI (xs (((i : Int) + 1)).toNat).toInt, vR 44, vI x] (sh1, J1, L1) (ga + 0, gb + 0) ?_
  refine hK.1 892 [some (vX a), some (vR 0), some (vR 44), some (vI (i : Int))] [vI ((i : Int) + 2), vX a, vI (xs (((i : Int) + 1)).toNat).toInt, vR 44, vI x] (sh1, J1, L1) (ga + 0, gb + 0) ?_
  refine And.intro ⟨rfl, by omega, by omega⟩ ?_
  refine hK.1 893 [some (vX a), some (vR 0), some (vR 44), some (vI (i : Int))] [vI (xs (((i : Int) + 2)).toNat).toInt, vI (xs (((i : Int) + 1)).toNat).toInt, vR 44, vI x] (sh1, J1, L1) (ga + 0, gb + 0) ?_
  refine hK.1 894 [some (vX a), some (vR 0), some (vR 44), some (vI (i : Int))] [vX a, vI (xs (((i : Int) + 2)).toNat).toInt, vI (xs (((i : Int) + 1)).toNat).toInt, vR 44, vI x] (sh1, J1, L1) (ga + 0, gb + 0) ?_
  refine hK.1 895 [some (vX a), some (vR 0), some (vR 44), some (vI (i : Int))] [vI (i : Int), vX a, vI (xs (((i : Int) + 2)).toNat).toInt, vI (xs (((i : Int) + 1)).toNat).toInt, vR 44, vI x] (sh1, J1, L1) (ga + 0, gb + 0) ?_
  refine hK.1 896 [some (vX a), some (vR 0), some (vR 44), some (vI (i : Int))] [vI 3, vI (i : Int), vX a, vI (xs (((i : Int) + 2)).toNat).toInt, vI (xs (((i : Int) + 1)).toNat).toInt, vR 44, vI x] (sh1, J1, L1) (ga + 0, gb + 0) ?_
  refine hK.1 897 [some (vX a), some (vR 0), some (vR 44), some (vI (i : Int))] [vI ((i : Int) + 3), vX a, vI (xs (((i : Int) + 2)).toNat).toInt, vI (xs (((i : Int) + 1)).toNat).toInt, vR 44, vI x] (sh1, J1, L1) (ga + 0, gb + 0) ?_
  refine And.intro ⟨rfl, by omega, by omega⟩ ?_
  refine hK.1 898 [some (vX a), some (vR 0), some (vR 44), some (vI (i : Int))] [vI (xs (((i : Int) + 3)).toNat).toInt, vI (xs (((i : Int) + 2)).toNat).toInt, vI (xs (((i : Int) + 1)).toNat).toInt, vR 44, vI x] (sh1, J1, L1) (ga + 0, gb + 0) ?_
  refine hK.1 899 [some (vX a), some (vR 0), some (vR 44), some (vI (i : Int))] [vX a, vI (xs (((i : Int) + 3)).toNat).toInt, vI (xs (((i : Int) + 2)).toNat).toInt, vI (xs (((i : Int) + 1)).toNat).toInt, vR 44, vI x] (sh1, J1, L1) (ga + 0, gb + 0) ?_
  refine hK.1 900 [some (vX a), some (vR 0), some (vR 44), some (vI (i : Int))] [vI (i : Int), vX a, vI (xs (((i : Int) + 3)).toNat).toInt, vI (xs (((i : Int) + 2)).toNat).toInt, vI (xs (((i : Int) + 1)).toNat).toInt, vR 44, vI x] (sh1, J1, L1) (ga + 0, gb + 0) ?_
  refine hK.1 901 [some (vX a), some (vR 0), some (vR 44), some (vI (i : Int))] [vI 4, vI (i : Int), vX a, vI (xs (((i : Int) + 3)).toNat).toInt, vI (xs (((i : Int) + 2)).toNat).toInt, vI (xs (((i : Int) + 1)).toNat).toInt, vR 44, vI x] (sh1, J1, L1) (ga + 0, gb + 0) ?_
  refine hK.1 902 [some (vX a), some (vR 0), some (vR 44), some (vI (i : Int))] [vI ((i : Int) + 4), vX a, vI (xs (((i : Int) + 3)).toNat).toInt, vI (xs (((i : Int) + 2)).toNat).toInt, vI (xs (((i : Int) + 1)).toNat).toInt, vR 44, vI x] (sh1, J1, L1) (ga + 0, gb + 0) ?_
  refine And.intro ⟨rfl, by omega, by omega⟩ ?_
  refine hK.1 903 [some (vX a), some (vR 0), some (vR 44), some (vI (i : Int))] [vI (xs (((i : Int) + 4)).toNat).toInt, vI (xs (((i : Int) + 3)).toNat).toInt, vI (xs (((i : Int) + 2)).toNat).toInt, vI (xs (((i : Int) + 1)).toNat).toInt, vR 44, vI x] (sh1, J1, L1) (ga + 0, gb + 0) ?_
  refine And.intro ⟨sk_44 nx.1, Nat.le_of_ble_eq_true rfl, Nat.le_of_ble_eq_true rfl, by show ga + 0 + 0 ≤ 600000; omega, by show gb + 0 + 0 ≤ 7302250; omega⟩ (nx.2 _ (fun sh2 Z L2 hs2 R2 => ?_))
  refine hK.1 906 [some (vX a), some (vR 0), some (vR 44), some (vI (i : Int))] [vI x, vI x] (sh2, Z, L2) (ga + 0 + 0, gb + 0 + 0) ?_
  exact And.intro rfl (k _ _ _ _ _ (by omega) (by omega) hs2 R2)
set_option maxRecDepth 4000 in
theorem lc_21 (hK : oCl (tb_L a n xs) Q K) {sh : oS} {I : Nat → Nat → Int} {L : Nat → Nat → Int64} (hs : Sh sh) {b : Nat} (R : Rel sh I b 0) (hb : b ≤ 10000) {i ga gb : Nat} (hi : i + 5 ≤ n) (g1 : ga + 4 ≤ 600000) (g2 : gb + 27 ≤ 7302250) (k : ∀ sh2 Z L2 ga2 gb2, ga2 ≤ ga + 4 → gb2 ≤ gb + 27 → Sh sh2 → Rel sh2 Z (b + 1) 0 → K 1149 [some (vX a), some (vR 0), some (vR 44), some (vI (i : Int))] [] (sh2, Z, L2) (ga2, gb2)) : K 911 [some (vX a), some (vR 0), some (vR 44), some (vI (i : Int))] [] (sh, I, L) (ga, gb) := by
  refine hK.1 911 [some (vX a), some (vR 0), some (vR 44), some (vI (i : Int))] [] (sh, I, L) (ga, gb) ?_
  refine hK.1 912 [some (vX a), some (vR 0), some (vR 44), some (vI (i : Int))] [vR 0] (sh, I, L) (ga, gb) ?_
  refine hK.1 913 [some (vX a), some (vR 0), some (vR 44), some (vI (i : Int))] [vX a, vR 0] (sh, I, L) (ga, gb) ?_
  refine hK.1 914 [some (vX a), some (vR 0), some (vR 44), some (vI (i : Int))] [vI (i : Int), vX a, vR 0] (sh, I, L) (ga, gb) ?_
  refine hK.1 915 [some (vX a), some (vR 0), some (vR 44), some (vI (i : Int))] [vI 1, vI (i : Int), vX a, vR 0] (sh, I, L) (ga, gb) ?_
  refine hK.1 916 [some (vX a), some (vR 0), some (vR 44), some (vI (i : Int))] [vI ((i : Int) + 1), vX a, vR 0] (sh, I, L) (ga, gb) ?_
  refine And.intro ⟨rfl, by omega, by omega⟩ ?_
  refine hK.1 917 [some (vX a), some (vR 0), some (vR 44), some (vI (i : Int))] [vI (xs (((i : Int) + 1)).toNat).toInt, vR 0] (sh, I, L) (ga, gb) ?_
  refine hK.1 918 [some (vX a), some (vR 0), some (vR 44), some (vI (i : Int))] [vX a, vI (xs (((i : Int) + 1)).toNat).toInt, vR 0] (sh, I, L) (ga, gb) ?_
  refine hK.1 919 [some (vX a), some (vR 0), some (vR 44), some (vI (i : Int))] [vI (i : Int), vX a, vI (xs (((i : Int) + 1)).toNat).toInt, vR 0] (sh, I, L) (ga, gb) ?_
  refine hK.1 920 [some (vX a), some (vR 0), some (vR 44), some (vI (i : Int))] [vI 2, vI (i : Int), vX a, vI (xs (((i : Int) + 1)).toNat).toInt, vR 0] (sh, I, L) (ga, gb) ?_
  refine hK.1 921 [some (vX a), some (vR 0), some (vR 44), some (vI (i : Int))] [vI ((i : Int) + 2), vX a, vI (xs (((i : Int) + 1)).toNat).toInt, vR 0] (sh, I, L) (ga, gb) ?_
  refine And.intro ⟨rfl, by omega, by omega⟩ ?_
  refine hK.1 922 [some (vX a), some (vR 0), some (vR 44), some (vI (i : Int))] [vI (xs (((i : Int) + 2)).toNat).toInt, vI (xs (((i : Int) + 1)).toNat).toInt, vR 0] (sh, I, L) (ga, gb) ?_
  refine And.intro ⟨sk_0 hs, Nat.le_of_ble_eq_true rfl, Nat.le_of_ble_eq_true rfl, by show ga + 0 ≤ 600000; omega, by show gb + 0 ≤ 7302250; omega⟩ ?_
  refine (pr_ahead (L := L) hs R (on_r (xs (((i : Int) + 1)).toNat)) (on_r (xs (((i : Int) + 2)).toNat))) _ (fun x mm nx => ?_)
  obtain ⟨sh1, J1, L1⟩ := mm
  refine hK.1 925 [some (vX a), some (vR 0), some (vR 44), some (vI (i : Int))] [vI x] (sh1, J1, L1) (ga + 0, gb + 0) ?_
  refine hK.1 926 [some (vX a), some (vR 0), some (vR 44), some (vI (i : Int))] [vR 44, vI x] (sh1, J1, L1) (ga + 0, gb + 0) ?_
  refine hK.1 927 [some (vX a), some (vR 0), some (vR 44), some (vI (i : Int))] [vX a, vR 44, vI x] (sh1, J1, L1) (ga + 0, gb + 0) ?_
  refine hK.1 928 [some (vX a), some (vR 0), some (vR 44), some (vI (i : Int))] [vI (i : Int), vX a, vR 44, vI x] (sh1, J1, L1) (ga + 0, gb + 0) ?_
  refine hK.1 929 [some (vX a), some (vR 0), some (vR 44), some (vI (i : Int))] [vI 1, vI (i : Int), vX a, vR 44, vI x] (sh1, J1, L1) (ga + 0, gb + 0) ?_
  refine hK.1 930 [some (vX a), some (vR 0), some (vR 44), some (vI (i : Int))] [vI ((i : Int) + 1), vX a, vR 44, vI x] (sh1, J1, L1) (ga + 0, gb + 0) ?_
  refine And.intro ⟨rfl, by omega, by omega⟩ ?_
  refine hK.1 931 [some (vX a), some (vR 0), some (vR 44), some (vI (i : Int))] [vI (xs (((i : Int) + 1)).toNat).toInt, vR 44, vI x] (sh1, J1, L1) (ga + 0, gb + 0) ?_
  refine hK.1 932 [some (vX a), some (vR 0), some (vR 44), some (vI (i : Int))] [vX a, vI (xs (((i : Int) + 1)).toNat).toInt, vR 44, vI x] (sh1, J1, L1) (ga + 0, gb + 0) ?_
  refine hK.1 933 [some (vX a), some (vR 0), some (vR 44), some (vI (i : Int))] [vI (i : Int), vX a, vI (xs (((i : Int) + 1)).toNat).toInt, vR 44, vI x] (sh1, J1, L1) (ga + 0, gb + 0) ?_
  refine hK.1 934 [some (vX a), some (vR 0), some (vR 44), some (vI (i : Int))] [vI 2, vI (i : Int), vX a, vI (xs (((i : Int) + 1)).toNat).toInt, vR 44, vI x] (sh1, J1, L1) (ga + 0, gb + 0) ?_
  refine hK.1 935 [some (vX a), some (vR 0), some (vR 44), some (vI (i : Int))] [vI ((i : Int) + 2), vX a, vI (xs (((i : Int) + 1)).toNat).toInt, vR 44, vI x] (sh1, J1, L1) (ga + 0, gb + 0) ?_
  refine And.intro ⟨rfl, by omega, by omega⟩ ?_
  refine hK.1 936 [some (vX a), some (vR 0), some (vR 44), some (vI (i : Int))] [vI (xs (((i : Int) + 2)).toNat).toInt, vI (xs (((i : Int) + 1)).toNat).toInt, vR 44, vI x] (sh1, J1, L1) (ga + 0, gb + 0) ?_
  refine And.intro ⟨sk_44 nx.1, Nat.le_of_ble_eq_true rfl, Nat.le_of_ble_eq_true rfl, by show ga + 0 + 0 ≤ 600000; omega, by show gb + 0 + 0 ≤ 7302250; omega⟩ (nx.2 _ (fun sh2 Z L2 hs2 R2 => ?_))
  refine hK.1 939 [some (vX a), some (vR 0), some (vR 44), some (vI (i : Int))] [vI x, vI x] (sh2, Z, L2) (ga + 0 + 0, gb + 0 + 0) ?_
  exact And.intro rfl (k _ _ _ _ _ (by omega) (by omega) hs2 R2)
set_option maxRecDepth 4000 in
theorem lc_22 (hK : oCl (tb_L a n xs) Q K) {sh : oS} {I : Nat → Nat → Int} {L : Nat → Nat → Int64} (hs : Sh sh) {b : Nat} (R : Rel sh I b 0) (hb : b ≤ 10000) {i ga gb : Nat} (hi : i + 5 ≤ n) (g1 : ga + 4 ≤ 600000) (g2 : gb + 27 ≤ 7302250) (k : ∀ sh2 Z L2 ga2 gb2, ga2 ≤ ga + 4 → gb2 ≤ gb + 27 → Sh sh2 → Rel sh2 Z (b + 1) 0 → K 1149 [some (vX a), some (vR 0), some (vR 44), some (vI (i : Int))] [] (sh2, Z, L2) (ga2, gb2)) : K 944 [some (vX a), some (vR 0), some (vR 44), some (vI (i : Int))] [] (sh, I, L) (ga, gb) := by
  refine hK.1 944 [some (vX a), some (vR 0), some (vR 44), some (vI (i : Int))] [] (sh, I, L) (ga, gb) ?_
  refine hK.1 945 [some (vX a), some (vR 0), some (vR 44), some (vI (i : Int))] [vR 0] (sh, I, L) (ga, gb) ?_
  refine hK.1 946 [some (vX a), some (vR 0), some (vR 44), some (vI (i : Int))] [vX a, vR 0] (sh, I, L) (ga, gb) ?_
  refine hK.1 947 [some (vX a), some (vR 0), some (vR 44), some (vI (i : Int))] [vI (i : Int), vX a, vR 0] (sh, I, L) (ga, gb) ?_
  refine hK.1 948 [some (vX a), some (vR 0), some (vR 44), some (vI (i : Int))] [vI 1, vI (i : Int), vX a, vR 0] (sh, I, L) (ga, gb) ?_
  refine hK.1 949 [some (vX a), some (vR 0), some (vR 44), some (vI (i : Int))] [vI ((i : Int) + 1), vX a, vR 0] (sh, I, L) (ga, gb) ?_
  refine And.intro ⟨rfl, by omega, by omega⟩ ?_
  refine hK.1 950 [some (vX a), some (vR 0), some (vR 44), some (vI (i : Int))] [vI (xs (((i : Int) + 1)).toNat).toInt, vR 0] (sh, I, L) (ga, gb) ?_
  refine hK.1 951 [some (vX a), some (vR 0), some (vR 44), some (vI (i : Int))] [vX a, vI (xs (((i : Int) + 1)).toNat).toInt, vR 0] (sh, I, L) (ga, gb) ?_
  refine hK.1 952 [some (vX a), some (vR 0), some (vR 44), some (vI (i : Int))] [vI (i : Int), vX a, vI (xs (((i : Int) + 1)).toNat).toInt, vR 0] (sh, I, L) (ga, gb) ?_
  refine hK.1 953 [some (vX a), some (vR 0), some (vR 44), some (vI (i : Int))] [vI 2, vI (i : Int), vX a, vI (xs (((i : Int) + 1)).toNat).toInt, vR 0] (sh, I, L) (ga, gb) ?_
  refine hK.1 954 [some (vX a), some (vR 0), some (vR 44), some (vI (i : Int))] [vI ((i : Int) + 2), vX a, vI (xs (((i : Int) + 1)).toNat).toInt, vR 0] (sh, I, L) (ga, gb) ?_
  refine And.intro ⟨rfl, by omega, by omega⟩ ?_
  refine hK.1 955 [some (vX a), some (vR 0), some (vR 44), some (vI (i : Int))] [vI (xs (((i : Int) + 2)).toNat).toInt, vI (xs (((i : Int) + 1)).toNat).toInt, vR 0] (sh, I, L) (ga, gb) ?_
  refine And.intro ⟨sk_0 hs, Nat.le_of_ble_eq_true rfl, Nat.le_of_ble_eq_true rfl, by show ga + 0 ≤ 600000; omega, by show gb + 0 ≤ 7302250; omega⟩ ?_
  refine (pr_far (L := L) hs R (on_r (xs (((i : Int) + 1)).toNat)) (on_r (xs (((i : Int) + 2)).toNat))) _ (fun x mm nx => ?_)
  obtain ⟨sh1, J1, L1⟩ := mm
  refine hK.1 958 [some (vX a), some (vR 0), some (vR 44), some (vI (i : Int))] [vI x] (sh1, J1, L1) (ga + 0, gb + 0) ?_
  refine hK.1 959 [some (vX a), some (vR 0), some (vR 44), some (vI (i : Int))] [vR 44, vI x] (sh1, J1, L1) (ga + 0, gb + 0) ?_
  refine hK.1 960 [some (vX a), some (vR 0), some (vR 44), some (vI (i : Int))] [vX a, vR 44, vI x] (sh1, J1, L1) (ga + 0, gb + 0) ?_
  refine hK.1 961 [some (vX a), some (vR 0), some (vR 44), some (vI (i : Int))] [vI (i : Int), vX a, vR 44, vI x] (sh1, J1, L1) (ga + 0, gb + 0) ?_
  refine hK.1 962 [some (vX a), some (vR 0), some (vR 44), some (vI (i : Int))] [vI 1, vI (i : Int), vX a, vR 44, vI x] (sh1, J1, L1) (ga + 0, gb + 0) ?_
  refine hK.1 963 [some (vX a), some (vR 0), some (vR 44), some (vI (i : Int))] [vI ((i : Int) + 1), vX a, vR 44, vI x] (sh1, J1, L1) (ga + 0, gb + 0) ?_
  refine And.intro ⟨rfl, by omega, by omega⟩ ?_
  refine hK.1 964 [some (vX a), some (vR 0), some (vR 44), some (vI (i : Int))] [vI (xs (((i : Int) + 1)).toNat).toInt, vR 44, vI x] (sh1, J1, L1) (ga + 0, gb + 0) ?_
  refine hK.1 965 [some (vX a), some (vR 0), some (vR 44), some (vI (i : Int))] [vX a, vI (xs (((i : Int) + 1)).toNat).toInt, vR 44, vI x] (sh1, J1, L1) (ga + 0, gb + 0) ?_
  refine hK.1 966 [some (vX a), some (vR 0), some (vR 44), some (vI (i : Int))] [vI (i : Int), vX a, vI (xs (((i : Int) + 1)).toNat).toInt, vR 44, vI x] (sh1, J1, L1) (ga + 0, gb + 0) ?_
  refine hK.1 967 [some (vX a), some (vR 0), some (vR 44), some (vI (i : Int))] [vI 2, vI (i : Int), vX a, vI (xs (((i : Int) + 1)).toNat).toInt, vR 44, vI x] (sh1, J1, L1) (ga + 0, gb + 0) ?_
  refine hK.1 968 [some (vX a), some (vR 0), some (vR 44), some (vI (i : Int))] [vI ((i : Int) + 2), vX a, vI (xs (((i : Int) + 1)).toNat).toInt, vR 44, vI x] (sh1, J1, L1) (ga + 0, gb + 0) ?_
  refine And.intro ⟨rfl, by omega, by omega⟩ ?_
  refine hK.1 969 [some (vX a), some (vR 0), some (vR 44), some (vI (i : Int))] [vI (xs (((i : Int) + 2)).toNat).toInt, vI (xs (((i : Int) + 1)).toNat).toInt, vR 44, vI x] (sh1, J1, L1) (ga + 0, gb + 0) ?_
  refine And.intro ⟨sk_44 nx.1, Nat.le_of_ble_eq_true rfl, Nat.le_of_ble_eq_true rfl, by show ga + 0 + 0 ≤ 600000; omega, by show gb + 0 + 0 ≤ 7302250; omega⟩ (nx.2 _ (fun sh2 Z L2 hs2 R2 => ?_))
  refine hK.1 972 [some (vX a), some (vR 0), some (vR 44), some (vI (i : Int))] [vI x, vI x] (sh2, Z, L2) (ga + 0 + 0, gb + 0 + 0) ?_
  exact And.intro rfl (k _ _ _ _ _ (by omega) (by omega) hs2 R2)
set_option maxRecDepth 4000 in
theorem lc_23 (hK : oCl (tb_L a n xs) Q K) {sh : oS} {I : Nat → Nat → Int} {L : Nat → Nat → Int64} (hs : Sh sh) {b : Nat} (R : Rel sh I b 0) (hb : b ≤ 10000) {i ga gb : Nat} (hi : i + 5 ≤ n) (g1 : ga + 4 ≤ 600000) (g2 : gb + 27 ≤ 7302250) (k : ∀ sh2 Z L2 ga2 gb2, ga2 ≤ ga + 4 → gb2 ≤ gb + 27 → Sh sh2 → Rel sh2 Z (b + 1) 0 → K 1149 [some (vX a), some (vR 0), some (vR 44), some (vI (i : Int))] [] (sh2, Z, L2) (ga2, gb2)) : K 977 [some (vX a), some (vR 0), some (vR 44), some (vI (i : Int))] [] (sh, I, L) (ga, gb) := by
  refine hK.1 977 [some (vX a), some (vR 0), some (vR 44), some (vI (i : Int))] [] (sh, I, L) (ga, gb) ?_
  refine hK.1 978 [some (vX a), some (vR 0), some (vR 44), some (vI (i : Int))] [vR 0] (sh, I, L) (ga, gb) ?_
  refine hK.1 979 [some (vX a), some (vR 0), some (vR 44), some (vI (i : Int))] [vX a, vR 0] (sh, I, L) (ga, gb) ?_
  refine hK.1 980 [some (vX a), some (vR 0), some (vR 44), some (vI (i : Int))] [vI (i : Int), vX a, vR 0] (sh, I, L) (ga, gb) ?_
  refine hK.1 981 [some (vX a), some (vR 0), some (vR 44), some (vI (i : Int))] [vI 1, vI (i : Int), vX a, vR 0] (sh, I, L) (ga, gb) ?_
  refine hK.1 982 [some (vX a), some (vR 0), some (vR 44), some (vI (i : Int))] [vI ((i : Int) + 1), vX a, vR 0] (sh, I, L) (ga, gb) ?_
  refine And.intro ⟨rfl, by omega, by omega⟩ ?_
  refine hK.1 983 [some (vX a), some (vR 0), some (vR 44), some (vI (i : Int))] [vI (xs (((i : Int) + 1)).toNat).toInt, vR 0] (sh, I, L) (ga, gb) ?_
  refine hK.1 984 [some (vX a), some (vR 0), some (vR 44), some (vI (i : Int))] [vX a, vI (xs (((i : Int) + 1)).toNat).toInt, vR 0] (sh, I, L) (ga, gb) ?_
  refine hK.1 985 [some (vX a), some (vR 0), some (vR 44), some (vI (i : Int))] [vI (i : Int), vX a, vI (xs (((i : Int) + 1)).toNat).toInt, vR 0] (sh, I, L) (ga, gb) ?_
  refine hK.1 986 [some (vX a), some (vR 0), some (vR 44), some (vI (i : Int))] [vI 2, vI (i : Int), vX a, vI (xs (((i : Int) + 1)).toNat).toInt, vR 0] (sh, I, L) (ga, gb) ?_
  refine hK.1 987 [some (vX a), some (vR 0), some (vR 44), some (vI (i : Int))] [vI ((i : Int) + 2), vX a, vI (xs (((i : Int) + 1)).toNat).toInt, vR 0] (sh, I, L) (ga, gb) ?_
  refine And.intro ⟨rfl, by omega, by omega⟩ ?_
  refine hK.1 988 [some (vX a), some (vR 0), some (vR 44), some (vI (i : Int))] [vI (xs (((i : Int) + 2)).toNat).toInt, vI (xs (((i : Int) + 1)).toNat).toInt, vR 0] (sh, I, L) (ga, gb) ?_
  refine hK.1 989 [some (vX a), some (vR 0), some (vR 44), some (vI (i : Int))] [vX a, vI (xs (((i : Int) + 2)).toNat).toInt, vI (xs (((i : Int) + 1)).toNat).toInt, vR 0] (sh, I, L) (ga, gb) ?_
  refine hK.1 990 [some (vX a), some (vR 0), some (vR 44), some (vI (i : Int))] [vI (i : Int), vX a, vI (xs (((i : Int) + 2)).toNat).toInt, vI (xs (((i : Int) + 1)).toNat).toInt, vR 0] (sh, I, L) (ga, gb) ?_
  refine hK.1 991 [some (vX a), some (vR 0), some (vR 44), some (vI (i : Int))] [vI 3, vI (i : Int), vX a, vI (xs (((i : Int) + 2)).toNat).toInt, vI (xs (((i : Int) + 1)).toNat).toInt, vR 0] (sh, I, L) (ga, gb) ?_
  refine hK.1 992 [some (vX a), some (vR 0), some (vR 44), some (vI (i : Int))] [vI ((i : Int) + 3), vX a, vI (xs (((i : Int) + 2)).toNat).toInt, vI (xs (((i : Int) + 1)).toNat).toInt, vR 0] (sh, I, L) (ga, gb) ?_
  refine And.intro ⟨rfl, by omega, by omega⟩ ?_
  refine hK.1 993 [some (vX a), some (vR 0), some (vR 44), some (vI (i : Int))] [vI (xs (((i : Int) + 3)).toNat).toInt, vI (xs (((i : Int) + 2)).toNat).toInt, vI (xs (((i : Int) + 1)).toNat).toInt, vR 0] (sh, I, L) (ga, gb) ?_
  refine And.intro ⟨sk_0 hs, Nat.le_of_ble_eq_true rfl, Nat.le_of_ble_eq_true rfl, by show ga + 0 ≤ 600000; omega, by show gb + 0 ≤ 7302250; omega⟩ ?_
  refine (pr_burnt (L := L) hs R (on_r (xs (((i : Int) + 1)).toNat)) (on_r (xs (((i : Int) + 2)).toNat)) (on_r (xs (((i : Int) + 3)).toNat))) _ (fun x mm nx => ?_)
  obtain ⟨sh1, J1, L1⟩ := mm
  refine hK.1 996 [some (vX a), some (vR 0), some (vR 44), some (vI (i : Int))] [vI x] (sh1, J1, L1) (ga + 0, gb + 0) ?_
  refine hK.1 997 [some (vX a), some (vR 0), some (vR 44), some (vI (i : Int))] [vR 44, vI x] (sh1, J1, L1) (ga + 0, gb + 0) ?_
  refine hK.1 998 [some (vX a), some (vR 0), some (vR 44), some (vI (i : Int))] [vX a, vR 44, vI x] (sh1, J1, L1) (ga + 0, gb + 0) ?_
  refine hK.1 999 [some (vX a), some (vR 0), some (vR 44), some (vI (i : Int))] [vI (i : Int), vX a, vR 44, vI x] (sh1, J1, L1) (ga + 0, gb + 0) ?_
  refine hK.1 1000 [some (vX a), some (vR 0), some (vR 44), some (vI (i : Int))] [vI 1, vI (i : Int), vX a, vR 44, vI x] (sh1, J1, L1) (ga + 0, gb + 0) ?_
  refine hK.1 1001 [some (vX a), some (vR 0), some (vR 44), some (vI (i : Int))] [vI ((i : Int) + 1), vX a, vR 44, vI x] (sh1, J1, L1) (ga + 0, gb + 0) ?_
  refine And.intro ⟨rfl, by omega, by omega⟩ ?_
  refine hK.1 1002 [some (vX a), some (vR 0), some (vR 44), some (vI (i : Int))] [vI (xs (((i : Int) + 1)).toNat).toInt, vR 44, vI x] (sh1, J1, L1) (ga + 0, gb + 0) ?_
  refine hK.1 1003 [some (vX a), some (vR 0), some (vR 44), some (vI (i : Int))] [vX a, vI (xs (((i : Int) + 1)).toNat).toInt, vR 44, vI x] (sh1, J1, L1) (ga + 0, gb + 0) ?_
  refine hK.1 1004 [some (vX a), some (vR 0), some (vR 44), some (vI (i : Int))] [vI (i : Int), vX a, vI (xs (((i : Int) + 1)).toNat).toInt, vR 44, vI x] (sh1, J1, L1) (ga + 0, gb + 0) ?_
  refine hK.1 1005 [some (vX a), some (vR 0), some (vR 44), some (vI (i : Int))] [vI 2, vI (i : Int), vX a, vI (xs (((i : Int) + 1)).toNat).toInt, vR 44, vI x] (sh1, J1, L1) (ga + 0, gb + 0) ?_
  refine hK.1 1006 [some (vX a), some (vR 0), some (vR 44), some (vI (i : Int))] [vI ((i : Int) + 2), vX a, vI (xs (((i : Int) + 1)).toNat).toInt, vR 44, vI x] (sh1, J1, L1) (ga + 0, gb + 0) ?_
  refine And.intro ⟨rfl, by omega, by omega⟩ ?_
  refine hK.1 1007 [some (vX a), some (vR 0), some (vR 44), some (vI (i : Int))] [vI (xs (((i : Int) + 2)).toNat).toInt, vI (xs (((i : Int) + 1)).toNat).toInt, vR 44, vI x] (sh1, J1, L1) (ga + 0, gb + 0) ?_
  refine hK.1 1008 [some (vX a), some (vR 0), some (vR 44), some (vI (i : Int))] [vX a, vI (xs (((i : Int) + 2)).toNat).toInt, vI (xs (((i : Int) + 1)).toNat).toInt, vR 44, vI x] (sh1, J1, L1) (ga + 0, gb + 0) ?_
  refine hK.1 1009 [some (vX a), some (vR 0), some (vR 44), some (vI (i : Int))] [vI (i : Int), vX a, vI (xs (((i : Int) + 2)).toNat).toInt, vI (xs (((i : Int) + 1)).toNat).toInt, vR 44, vI x] (sh1, J1, L1) (ga + 0, gb + 0) ?_
  refine hK.1 1010 [some (vX a), some (vR 0), some (vR 44), some (vI (i : Int))] [vI 3, vI (i : Int), vX a, vI (xs (((i : Int) + 2)).toNat).toInt, vI (xs (((i : Int) + 1)).toNat).toInt, vR 44, vI x] (sh1, J1, L1) (ga + 0, gb + 0) ?_
  refine hK.1 1011 [some (vX a), some (vR 0), some (vR 44), some (vI (i : Int))] [vI ((i : Int) + 3), vX a, vI (xs (((i : Int) + 2)).toNat).toInt, vI (xs (((i : Int) + 1)).toNat).toInt, vR 44, vI x] (sh1, J1, L1) (ga + 0, gb + 0) ?_
  refine And.intro ⟨rfl, by omega, by omega⟩ ?_
  refine hK.1 1012 [some (vX a), some (vR 0), some (vR 44), some (vI (i : Int))] [vI (xs (((i : Int) + 3)).toNat).toInt, vI (xs (((i : Int) + 2)).toNat).toInt, vI (xs (((i : Int) + 1)).toNat).toInt, vR 44, vI x] (sh1, J1, L1) (ga + 0, gb + 0) ?_
  refine And.intro ⟨sk_44 nx.1, Nat.le_of_ble_eq_true rfl, Nat.le_of_ble_eq_true rfl, by show ga + 0 + 0 ≤ 600000; omega, by show gb + 0 + 0 ≤ 7302250; omega⟩ (nx.2 _ (fun sh2 Z L2 hs2 R2 => ?_))
  refine hK.1 1015 [some (vX a), some (vR 0), some (vR 44), some (vI (i : Int))] [vI x, vI x] (sh2, Z, L2) (ga + 0 + 0, gb + 0 + 0) ?_
  exact And.intro rfl (k _ _ _ _ _ (by omega) (by omega) hs2 R2)
set_option maxRecDepth 4000 in
theorem lc_24 (hK : oCl (tb_L a n xs) Q K) {sh : oS} {I : Nat → Nat → Int} {L : Nat → Nat → Int64} (hs : Sh sh) {b : Nat} (R : Rel sh I b 0) (hb : b ≤ 10000) {i ga gb : Nat} (hi : i + 5 ≤ n) (g1 : ga + 4 ≤ 600000) (g2 : gb + 27 ≤ 7302250) (k : ∀ sh2 Z L2 ga2 gb2, ga2 ≤ ga + 4 → gb2 ≤ gb + 27 → Sh sh2 → Rel sh2 Z (b + 1) 0 → K 1149 [some (vX a), some (vR 0), some (vR 44), some (vI (i : Int))] [] (sh2, Z, L2) (ga2, gb2)) : K 1020 [some (vX a), some (vR 0), some (vR 44), some (vI (i : Int))] [] (sh, I, L) (ga, gb) := by
  refine hK.1 1020 [some (vX a), some (vR 0), some (vR 44), some (vI (i : Int))] [] (sh, I, L) (ga, gb) ?_
  refine hK.1 1021 [some (vX a), some (vR 0), some (vR 44), some (vI (i : Int))] [vR 0] (sh, I, L) (ga, gb) ?_
  refine hK.1 1022 [some (vX a), some (vR 0), some (vR 44), some (vI (i : Int))] [vX a, vR 0] (sh, I, L) (ga, gb) ?_
  refine hK.1 1023 [some (vX a), some (vR 0), some (vR 44), some (vI (i : Int))] [vI (i : Int), vX a, vR 0] (sh, I, L) (ga, gb) ?_
  refine hK.1 1024 [some (vX a), some (vR 0), some (vR 44), some (vI (i : Int))] [vI 1, vI (i : Int), vX a, vR 0] (sh, I, L) (ga, gb) ?_
  refine hK.1 1025 [some (vX a), some (vR 0), some (vR 44), some (vI (i : Int))] [vI ((i : Int) + 1), vX a, vR 0] (sh, I, L) (ga, gb) ?_
  refine And.intro ⟨rfl, by omega, by omega⟩ ?_
  refine hK.1 1026 [some (vX a), some (vR 0), some (vR 44), some (vI (i : Int))] [vI (xs (((i : Int) + 1)).toNat).toInt, vR 0] (sh, I, L) (ga, gb) ?_
  refine hK.1 1027 [some (vX a), some (vR 0), some (vR 44), some (vI (i : Int))] [vX a, vI (xs (((i : Int) + 1)).toNat).toInt, vR 0] (sh, I, L) (ga, gb) ?_
  refine hK.1 1028 [some (vX a), some (vR 0), some (vR 44), some (vI (i : Int))] [vI (i : Int), vX a, vI (xs (((i : Int) + 1)).toNat).toInt, vR 0] (sh, I, L) (ga, gb) ?_
  refine hK.1 1029 [some (vX a), some (vR 0), some (vR 44), some (vI (i : Int))] [vI 2, vI (i : Int), vX a, vI (xs (((i : Int) + 1)).toNat).toInt, vR 0] (sh, I, L) (ga, gb) ?_
  refine hK.1 1030 [some (vX a), some (vR 0), some (vR 44), some (vI (i : Int))] [vI ((i : Int) + 2), vX a, vI (xs (((i : Int) + 1)).toNat).toInt, vR 0] (sh, I, L) (ga, gb) ?_
  refine And.intro ⟨rfl, by omega, by omega⟩ ?_
  refine hK.1 1031 [some (vX a), some (vR 0), some (vR 44), some (vI (i : Int))] [vI (xs (((i : Int) + 2)).toNat).toInt, vI (xs (((i : Int) + 1)).toNat).toInt, vR 0] (sh, I, L) (ga, gb) ?_
  refine hK.1 1032 [some (vX a), some (vR 0), some (vR 44), some (vI (i : Int))] [vX a, vI (xs (((i : Int) + 2)).toNat).toInt, vI (xs (((i : Int) + 1)).toNat).toInt, vR 0] (sh, I, L) (ga, gb) ?_
  refine hK.1 1033 [some (vX a), some (vR 0), some (vR 44), some (vI (i : Int))] [vI (i : Int), vX a, vI (xs (((i : Int) + 2)).toNat).toInt, vI (xs (((i : Int) + 1)).toNat).toInt, vR 0] (sh, I, L) (ga, gb) ?_
  refine hK.1 1034 [some (vX a), some (vR 0), some (vR 44), some (vI (i : Int))] [vI 3, vI (i : Int), vX a, vI (xs (((i : Int) + 2)).toNat).toInt, vI (xs (((i : Int) + 1)).toNat).toInt, vR 0] (sh, I, L) (ga, gb) ?_
  refine hK.1 1035 [some (vX a), some (vR 0), some (vR 44), some (vI (i : Int))] [vI ((i : Int) + 3), vX a, vI (xs (((i : Int) + 2)).toNat).toInt, vI (xs (((i : Int) + 1)).toNat).toInt, vR 0] (sh, I, L) (ga, gb) ?_
  refine And.intro ⟨rfl, by omega, by omega⟩ ?_
  refine hK.1 1036 [some (vX a), some (vR 0), some (vR 44), some (vI (i : Int))] [vI (xs (((i : Int) + 3)).toNat).toInt, vI (xs (((i : Int) + 2)).toNat).toInt, vI (xs (((i : Int) + 1)).toNat).toInt, vR 0] (sh, I, L) (ga, gb) ?_
  refine And.intro ⟨sk_0 hs, Nat.le_of_ble_eq_true rfl, Nat.le_of_ble_eq_true rfl, by show ga + 0 ≤ 600000; omega, by show gb + 0 ≤ 7302250; omega⟩ ?_
  refine (pr_more (L := L) hs R (on_r (xs (((i : Int) + 1)).toNat)) (on_r (xs (((i : Int) + 2)).toNat)) (on_r (xs (((i : Int) + 3)).toNat))) _ (fun x mm nx => ?_)
  obtain ⟨sh1, J1, L1⟩ := mm
  refine hK.1 1039 [some (vX a), some (vR 0), some (vR 44), some (vI (i : Int))] [vI x] (sh1, J1, L1) (ga + 0, gb + 0) ?_
  refine hK.1 1040 [some (vX a), some (vR 0), some (vR 44), some (vI (i : Int))] [vR 44, vI x] (sh1, J1, L1) (ga + 0, gb + 0) ?_
  refine hK.1 1041 [some (vX a), some (vR 0), some (vR 44), some (vI (i : Int))] [vX a, vR 44, vI x] (sh1, J1, L1) (ga + 0, gb + 0) ?_
  refine hK.1 1042 [some (vX a), some (vR 0), some (vR 44), some (vI (i : Int))] [vI (i : Int), vX a, vR 44, vI x] (sh1, J1, L1) (ga + 0, gb + 0) ?_
  refine hK.1 1043 [some (vX a), some (vR 0), some (vR 44), some (vI (i : Int))] [vI 1, vI (i : Int), vX a, vR 44, vI x] (sh1, J1, L1) (ga + 0, gb + 0) ?_
  refine hK.1 1044 [some (vX a), some (vR 0), some (vR 44), some (vI (i : Int))] [vI ((i : Int) + 1), vX a, vR 44, vI x] (sh1, J1, L1) (ga + 0, gb + 0) ?_
  refine And.intro ⟨rfl, by omega, by omega⟩ ?_
  refine hK.1 1045 [some (vX a), some (vR 0), some (vR 44), some (vI (i : Int))] [vI (xs (((i : Int) + 1)).toNat).toInt, vR 44, vI x] (sh1, J1, L1) (ga + 0, gb + 0) ?_
  refine hK.1 1046 [some (vX a), some (vR 0), some (vR 44), some (vI (i : Int))] [vX a, vI (xs (((i : Int) + 1)).toNat).toInt, vR 44, vI x] (sh1, J1, L1) (ga + 0, gb + 0) ?_
  refine hK.1 1047 [some (vX a), some (vR 0), some (vR 44), some (vI (i : Int))] [vI (i : Int), vX a, vI (xs (((i : Int) + 1)).toNat).toInt, vR 44, vI x] (sh1, J1, L1) (ga + 0, gb + 0) ?_
  refine hK.1 1048 [some (vX a), some (vR 0), some (vR 44), some (vI (i : Int))] [vI 2, vI (i : Int), vX a, vI (xs (((i : Int) + 1)).toNat).toInt, vR 44, vI x] (sh1, J1, L1) (ga + 0, gb + 0) ?_
  refine hK.1 1049 [some (vX a), some (vR 0), some (vR 44), some (vI (i : Int))] [vI ((i : Int) + 2), vX a, vI (xs (((i : Int) + 1)).toNat).toInt, vR 44, vI x] (sh1, J1, L1) (ga + 0, gb + 0) ?_
  refine And.intro ⟨rfl, by omega, by omega⟩ ?_
  refine hK.1 1050 [some (vX a), some (vR 0), some (vR 44), some (vI (i : Int))] [vI (xs (((i : Int) + 2)).toNat).toInt, vI (xs (((i : Int) + 1)).toNat).toInt, vR 44, vI x] (sh1, J1, L1) (ga + 0, gb + 0) ?_
  refine hK.1 1051 [some (vX a), some (vR 0), some (vR 44), some (vI (i : Int))] [vX a, vI (xs (((i : Int) + 2)).toNat).toInt, vI (xs (((i : Int) + 1)).toNat).toInt, vR 44, vI x] (sh1, J1, L1) (ga + 0, gb + 0) ?_
  refine hK.1 1052 [some (vX a), some (vR 0), some (vR 44), some (vI (i : Int))] [vI (i : Int), vX a, vI (xs (((i : Int) + 2)).toNat).toInt, vI (xs (((i : Int) + 1)).toNat).toInt, vR 44, vI x] (sh1, J1, L1) (ga + 0, gb + 0) ?_
  refine hK.1 1053 [some (vX a), some (vR 0), some (vR 44), some (vI (i : Int))] [vI 3, vI (i : Int), vX a, vI (xs (((i : Int) + 2)).toNat).toInt, vI (xs (((i : Int) + 1)).toNat).toInt, vR 44, vI x] (sh1, J1, L1) (ga + 0, gb + 0) ?_
  refine hK.1 1054 [some (vX a), some (vR 0), some (vR 44), some (vI (i : Int))] [vI ((i : Int) + 3), vX a, vI (xs (((i : Int) + 2)).toNat).toInt, vI (xs (((i : Int) + 1)).toNat).toInt, vR 44, vI x] (sh1, J1, L1) (ga + 0, gb + 0) ?_
  refine And.intro ⟨rfl, by omega, by omega⟩ ?_
  refine hK.1 1055 [some (vX a), some (vR 0), some (vR 44), some (vI (i : Int))] [vI (xs (((i : Int) + 3)).toNat).toInt, vI (xs (((i : Int) + 2)).toNat).toInt, vI (xs (((i : Int) + 1)).toNat).toInt, vR 44, vI x] (sh1, J1, L1) (ga + 0, gb + 0) ?_
  refine And.intro ⟨sk_44 nx.1, Nat.le_of_ble_eq_true rfl, Nat.le_of_ble_eq_true rfl, by show ga + 0 + 0 ≤ 600000; omega, by show gb + 0 + 0 ≤ 7302250; omega⟩ (nx.2 _ (fun sh2 Z L2 hs2 R2 => ?_))
  refine hK.1 1058 [some (vX a), some (vR 0), some (vR 44), some (vI (i : Int))] [vI x, vI x] (sh2, Z, L2) (ga + 0 + 0, gb + 0 + 0) ?_
  exact And.intro rfl (k _ _ _ _ _ (by omega) (by omega) hs2 R2)
set_option maxRecDepth 4000 in
theorem lc_25 (hK : oCl (tb_L a n xs) Q K) {sh : oS} {I : Nat → Nat → Int} {L : Nat → Nat → Int64} (hs : Sh sh) {b : Nat} (R : Rel sh I b 0) (hb : b ≤ 10000) {i ga gb : Nat} (hi : i + 5 ≤ n) (g1 : ga + 4 ≤ 600000) (g2 : gb + 27 ≤ 7302250) (k : ∀ sh2 Z L2 ga2 gb2, ga2 ≤ ga + 4 → gb2 ≤ gb + 27 → Sh sh2 → Rel sh2 Z (b + 1) 0 → K 1149 [some (vX a), some (vR 0), some (vR 44), some (vI (i : Int))] [] (sh2, Z, L2) (ga2, gb2)) : K 1063 [some (vX a), some (vR 0), some (vR 44), some (vI (i : Int))] [] (sh, I, L) (ga, gb) := by
  refine hK.1 1063 [some (vX a), some (vR 0), some (vR 44), some (vI (i : Int))] [] (sh, I, L) (ga, gb) ?_
  refine hK.1 1064 [some (vX a), some (vR 0), some (vR 44), some (vI (i : Int))] [vR 0] (sh, I, L) (ga, gb) ?_
  refine hK.1 1065 [some (vX a), some (vR 0), some (vR 44), some (vI (i : Int))] [vX a, vR 0] (sh, I, L) (ga, gb) ?_
  refine hK.1 1066 [some (vX a), some (vR 0), some (vR 44), some (vI (i : Int))] [vI (i : Int), vX a, vR 0] (sh, I, L) (ga, gb) ?_
  refine hK.1 1067 [some (vX a), some (vR 0), some (vR 44), some (vI (i : Int))] [vI 1, vI (i : Int), vX a, vR 0] (sh, I, L) (ga, gb) ?_
  refine hK.1 1068 [some (vX a), some (vR 0), some (vR 44), some (vI (i : Int))] [vI ((i : Int) + 1), vX a, vR 0] (sh, I, L) (ga, gb) ?_
  refine And.intro ⟨rfl, by omega, by omega⟩ ?_
  refine hK.1 1069 [some (vX a), some (vR 0), some (vR 44), some (vI (i : Int))] [vI (xs (((i : Int) + 1)).toNat).toInt, vR 0] (sh, I, L) (ga, gb) ?_
  refine And.intro ⟨sk_0 hs, Nat.le_of_ble_eq_true rfl, Nat.le_of_ble_eq_true rfl, by show ga + 0 ≤ 600000; omega, by show gb + 0 ≤ 7302250; omega⟩ ?_
  refine (pr_which (L := L) hs R (on_r (xs (((i : Int) + 1)).toNat))) _ (fun x mm nx => ?_)
  obtain ⟨sh1, J1, L1⟩ := mm
  refine hK.1 1072 [some (vX a), some (vR 0), some (vR 44), some (vI (i : Int))] [vI x] (sh1, J1, L1) (ga + 0, gb + 0) ?_
  refine hK.1 1073 [some (vX a), some (vR 0), some (vR 44), some (vI (i : Int))] [vR 44, vI x] (sh1, J1, L1) (ga + 0, gb + 0) ?_
  refine hK.1 1074 [some (vX a), some (vR 0), some (vR 44), some (vI (i : Int))] [vX a, vR 44, vI x] (sh1, J1, L1) (ga + 0, gb + 0) ?_
  refine hK.1 1075 [some (vX a), some (vR 0), some (vR 44), some (vI (i : Int))] [vI (i : Int), vX a, vR 44, vI x] (sh1, J1, L1) (ga + 0, gb + 0) ?_
  refine hK.1 1076 [some (vX a), some (vR 0), some (vR 44), some (vI (i : Int))] [vI 1, vI (i : Int), vX a, vR 44, vI x] (sh1, J1, L1) (ga + 0, gb + 0) ?_
  refine hK.1 1077 [some (vX a), some (vR 0), some (vR 44), some (vI (i : Int))] [vI ((i : Int) + 1), vX a, vR 44, vI x] (sh1, J1, L1) (ga + 0, gb + 0) ?_
  refine And.intro ⟨rfl, by omega, by omega⟩ ?_
  refine hK.1 1078 [some (vX a), some (vR 0), some (vR 44), some (vI (i : Int))] [vI (xs (((i : Int) + 1)).toNat).toInt, vR 44, vI x] (sh1, J1, L1) (ga + 0, gb + 0) ?_
  refine And.intro ⟨sk_44 nx.1, Nat.le_of_ble_eq_true rfl, Nat.le_of_ble_eq_true rfl, by show ga + 0 + 0 ≤ 600000; omega, by show gb + 0 + 0 ≤ 7302250; omega⟩ (nx.2 _ (fun sh2 Z L2 hs2 R2 => ?_))
  refine hK.1 1081 [some (vX a), some (vR 0), some (vR 44), some (vI (i : Int))] [vI x, vI x] (sh2, Z, L2) (ga + 0 + 0, gb + 0 + 0) ?_
  exact And.intro rfl (k _ _ _ _ _ (by omega) (by omega) hs2 R2)
set_option maxRecDepth 4000 in
theorem lc_26 (hK : oCl (tb_L a n xs) Q K) {sh : oS} {I : Nat → Nat → Int} {L : Nat → Nat → Int64} (hs : Sh sh) {b : Nat} (R : Rel sh I b 0) (hb : b ≤ 10000) {i ga gb : Nat} (hi : i + 5 ≤ n) (g1 : ga + 4 ≤ 600000) (g2 : gb + 27 ≤ 7302250) (k : ∀ sh2 Z L2 ga2 gb2, ga2 ≤ ga + 4 → gb2 ≤ gb + 27 → Sh sh2 → Rel sh2 Z (b + 1) 0 → K 1149 [some (vX a), some (vR 0), some (vR 44), some (vI (i : Int))] [] (sh2, Z, L2) (ga2, gb2)) : K 1086 [some (vX a), some (vR 0), some (vR 44), some (vI (i : Int))] [] (sh, I, L) (ga, gb) := by
  refine hK.1 1086 [some (vX a), some (vR 0), some (vR 44), some (vI (i : Int))] [] (sh, I, L) (ga, gb) ?_
  refine hK.1 1087 [some (vX a), some (vR 0), some (vR 44), some (vI (i : Int))] [vR 0] (sh, I, L) (ga, gb) ?_
  refine And.intro ⟨sk_0 hs, Nat.le_of_ble_eq_true rfl, Nat.le_of_ble_eq_true rfl, by show ga + 0 ≤ 600000; omega, by show gb + 0 ≤ 7302250; omega⟩ ?_
  refine (pr_image (L := L) hs R) _ (fun x mm nx => ?_)
  obtain ⟨sh1, J1, L1⟩ := mm
  refine hK.1 1090 [some (vX a), some (vR 0), some (vR 44), some (vI (i : Int))] [vI x] (sh1, J1, L1) (ga + 0, gb + 0) ?_
  refine hK.1 1091 [some (vX a), some (vR 0), some (vR 44), some (vI (i : Int))] [vR 44, vI x] (sh1, J1, L1) (ga + 0, gb + 0) ?_
  refine And.intro ⟨sk_44 nx.1, Nat.le_of_ble_eq_true rfl, Nat.le_of_ble_eq_true rfl, by show ga + 0 + 0 ≤ 600000; omega, by show gb + 0 + 0 ≤ 7302250; omega⟩ (nx.2 _ (fun sh2 Z L2 hs2 R2 => ?_))
  refine hK.1 1094 [some (vX a), some (vR 0), some (vR 44), some (vI (i : Int))] [vI x, vI x] (sh2, Z, L2) (ga + 0 + 0, gb + 0 + 0) ?_
  exact And.intro rfl (k _ _ _ _ _ (by omega) (by omega) hs2 R2)
set_option maxRecDepth 4000 in
theorem lc_27 (hK : oCl (tb_L a n xs) Q K) {sh : oS} {I : Nat → Nat → Int} {L : Nat → Nat → Int64} (hs : Sh sh) {b : Nat} (R : Rel sh I b 0) (hb : b ≤ 10000) {i ga gb : Nat} (hi : i + 5 ≤ n) (g1 : ga + 4 ≤ 600000) (g2 : gb + 27 ≤ 7302250) (k : ∀ sh2 Z L2 ga2 gb2, ga2 ≤ ga + 4 → gb2 ≤ gb + 27 → Sh sh2 → Rel sh2 Z (b + 1) 0 → K 1149 [some (vX a), some (vR 0), some (vR 44), some (vI (i : Int))] [] (sh2, Z, L2) (ga2, gb2)) : K 1099 [some (vX a), some (vR 0), some (vR 44), some (vI (i : Int))] [] (sh, I, L) (ga, gb) := by
  refine hK.1 1099 [some (vX a), some (vR 0), some (vR 44), some (vI (i : Int))] [] (sh, I, L) (ga, gb) ?_
  refine hK.1 1100 [some (vX a), some (vR 0), some (vR 44), some (vI (i : Int))] [vR 0] (sh, I, L) (ga, gb) ?_
  refine And.intro ⟨sk_0 hs, Nat.le_of_ble_eq_true rfl, Nat.le_of_ble_eq_true rfl, by show ga + 0 ≤ 600000; omega, by show gb + 0 ≤ 7302250; omega⟩ ?_
  refine (pr_restore (L := L) hs R hb) _ (fun x mm nx => ?_)
  obtain ⟨sh1, J1, L1⟩ := mm
  refine hK.1 1103 [some (vX a), some (vR 0), some (vR 44), some (vI (i : Int))] [vI x] (sh1, J1, L1) (ga + 0, gb + 0) ?_
  refine hK.1 1104 [some (vX a), some (vR 0), some (vR 44), some (vI (i : Int))] [vR 44, vI x] (sh1, J1, L1) (ga + 0, gb + 0) ?_
  refine And.intro ⟨sk_44 nx.1, Nat.le_of_ble_eq_true rfl, Nat.le_of_ble_eq_true rfl, by show ga + 0 + 0 ≤ 600000; omega, by show gb + 0 + 0 ≤ 7302250; omega⟩ (nx.2 _ (fun sh2 Z L2 hs2 R2 => ?_))
  refine hK.1 1107 [some (vX a), some (vR 0), some (vR 44), some (vI (i : Int))] [vI x, vI x] (sh2, Z, L2) (ga + 0 + 0, gb + 0 + 0) ?_
  exact And.intro rfl (k _ _ _ _ _ (by omega) (by omega) hs2 R2)
set_option maxRecDepth 4000 in
theorem lc_28 (hK : oCl (tb_L a n xs) Q K) {sh : oS} {I : Nat → Nat → Int} {L : Nat → Nat → Int64} (hs : Sh sh) {b : Nat} (R : Rel sh I b 0) (hb : b ≤ 10000) {i ga gb : Nat} (hi : i + 5 ≤ n) (g1 : ga + 4 ≤ 600000) (g2 : gb + 27 ≤ 7302250) (k : ∀ sh2 Z L2 ga2 gb2, ga2 ≤ ga + 4 → gb2 ≤ gb + 27 → Sh sh2 → Rel sh2 Z (b + 1) 0 → K 1149 [some (vX a), some (vR 0), some (vR 44), some (vI (i : Int))] [] (sh2, Z, L2) (ga2, gb2)) : K 1112 [some (vX a), some (vR 0), some (vR 44), some (vI (i : Int))] [] (sh, I, L) (ga, gb) := by
  refine hK.1 1112 [some (vX a), some (vR 0), some (vR 44), some (vI (i : Int))] [] (sh, I, L) (ga, gb) ?_
  refine hK.1 1113 [some (vX a), some (vR 0), some (vR 44), some (vI (i : Int))] [vR 0] (sh, I, L) (ga, gb) ?_
  refine hK.1 1114 [some (vX a), some (vR 0), some (vR 44), some (vI (i : Int))] [vX a, vR 0] (sh, I, L) (ga, gb) ?_
  refine hK.1 1115 [some (vX a), some (vR 0), some (vR 44), some (vI (i : Int))] [vI (i : Int), vX a, vR 0] (sh, I, L) (ga, gb) ?_
  refine hK.1 1116 [some (vX a), some (vR 0), some (vR 44), some (vI (i : Int))] [vI 1, vI (i : Int), vX a, vR 0] (sh, I, L) (ga, gb) ?_
  refine hK.1 1117 [some (vX a), some (vR 0), some (vR 44), some (vI (i : Int))] [vI ((i : Int) + 1), vX a, vR 0] (sh, I, L) (ga, gb) ?_
  refine And.intro ⟨rfl, by omega, by omega⟩ ?_
  refine hK.1 1118 [some (vX a), some (vR 0), some (vR 44), some (vI (i : Int))] [vI (xs (((i : Int) + 1)).toNat).toInt, vR 0] (sh, I, L) (ga, gb) ?_
  refine And.intro ⟨sk_0 hs, Nat.le_of_ble_eq_true rfl, Nat.le_of_ble_eq_true rfl, by show ga + 0 ≤ 600000; omega, by show gb + 0 ≤ 7302250; omega⟩ ?_
  refine (pr_count (L := L) hs R (on_r (xs (((i : Int) + 1)).toNat))) _ (fun x mm nx => ?_)
  obtain ⟨sh1, J1, L1⟩ := mm
  refine hK.1 1121 [some (vX a), some (vR 0), some (vR 44), some (vI (i : Int))] [vI x] (sh1, J1, L1) (ga + 0, gb + 0) ?_
  refine hK.1 1122 [some (vX a), some (vR 0), some (vR 44), some (vI (i : Int))] [vR 44, vI x] (sh1, J1, L1) (ga + 0, gb + 0) ?_
  refine hK.1 1123 [some (vX a), some (vR 0), some (vR 44), some (vI (i : Int))] [vX a, vR 44, vI x] (sh1, J1, L1) (ga + 0, gb + 0) ?_
  refine hK.1 1124 [some (vX a), some (vR 0), some (vR 44), some (vI (i : Int))] [vI (i : Int), vX a, vR 44, vI x] (sh1, J1, L1) (ga + 0, gb + 0) ?_
  refine hK.1 1125 [some (vX a), some (vR 0), some (vR 44), some (vI (i : Int))] [vI 1, vI (i : Int), vX a, vR 44, vI x] (sh1, J1, L1) (ga + 0, gb + 0) ?_
  refine hK.1 1126 [some (vX a), some (vR 0), some (vR 44), some (vI (i : Int))] [vI ((i : Int) + 1), vX a, vR 44, vI x] (sh1, J1, L1) (ga + 0, gb + 0) ?_
  refine And.intro ⟨rfl, by omega, by omega⟩ ?_
  refine hK.1 1127 [some (vX a), some (vR 0), some (vR 44), some (vI (i : Int))] [vI (xs (((i : Int) + 1)).toNat).toInt, vR 44, vI x] (sh1, J1, L1) (ga + 0, gb + 0) ?_
  refine And.intro ⟨sk_44 nx.1, Nat.le_of_ble_eq_true rfl, Nat.le_of_ble_eq_true rfl, by show ga + 0 + 0 ≤ 600000; omega, by show gb + 0 + 0 ≤ 7302250; omega⟩ (nx.2 _ (fun sh2 Z L2 hs2 R2 => ?_))
  refine hK.1 1130 [some (vX a), some (vR 0), some (vR 44), some (vI (i : Int))] [vI x, vI x] (sh2, Z, L2) (ga + 0 + 0, gb + 0 + 0) ?_
  exact And.intro rfl (k _ _ _ _ _ (by omega) (by omega) hs2 R2)
set_option maxRecDepth 4000 in
theorem lc_29 (hK : oCl (tb_L a n xs) Q K) {sh : oS} {I : Nat → Nat → Int} {L : Nat → Nat → Int64} (hs : Sh sh) {b : Nat} (R : Rel sh I b 0) (hb : b ≤ 10000) {i ga gb : Nat} (hi : i + 5 ≤ n) (g1 : ga + 4 ≤ 600000) (g2 : gb + 27 ≤ 7302250) (k : ∀ sh2 Z L2 ga2 gb2, ga2 ≤ ga + 4 → gb2 ≤ gb + 27 → Sh sh2 → Rel sh2 Z (b + 1) 0 → K 1149 [some (vX a), some (vR 0), some (vR 44), some (vI (i : Int))] [] (sh2, Z, L2) (ga2, gb2)) : K 1135 [some (vX a), some (vR 0), some (vR 44), some (vI (i : Int))] [] (sh, I, L) (ga, gb) := by
  refine hK.1 1135 [some (vX a), some (vR 0), some (vR 44), some (vI (i : Int))] [] (sh, I, L) (ga, gb) ?_
  refine hK.1 1136 [some (vX a), some (vR 0), some (vR 44), some (vI (i : Int))] [vR 0] (sh, I, L) (ga, gb) ?_
  refine And.intro ⟨sk_0 hs, Nat.le_of_ble_eq_true rfl, Nat.le_of_ble_eq_true rfl, by show ga + 0 ≤ 600000; omega, by show gb + 0 ≤ 7302250; omega⟩ ?_
  refine (pr_digest (L := L) hs R hb) _ (fun x mm nx => ?_)
  obtain ⟨sh1, J1, L1⟩ := mm
  refine hK.1 1139 [some (vX a), some (vR 0), some (vR 44), some (vI (i : Int))] [vL x] (sh1, J1, L1) (ga + 0, gb + 0) ?_
  refine hK.1 1140 [some (vX a), some (vR 0), some (vR 44), some (vI (i : Int))] [vR 44, vL x] (sh1, J1, L1) (ga + 0, gb + 0) ?_
  refine And.intro ⟨sk_44 nx.1, Nat.le_of_ble_eq_true rfl, Nat.le_of_ble_eq_true rfl, by show ga + 0 + 0 ≤ 600000; omega, by show gb + 0 + 0 ≤ 7302250; omega⟩ (nx.2 _ (fun sh2 Z L2 hs2 R2 => ?_))
  refine hK.1 1143 [some (vX a), some (vR 0), some (vR 44), some (vI (i : Int))] [vL x, vL x] (sh2, Z, L2) (ga + 0 + 0, gb + 0 + 0) ?_
  refine hK.1 1144 [some (vX a), some (vR 0), some (vR 44), some (vI (i : Int))] [vI (lg_cmp x x).toInt] (sh2, Z, L2) (ga + 0 + 0, gb + 0 + 0) ?_
  rw [show (lg_cmp x x).toInt = 0 by rw [(lg_cmp_eq x x).2 rfl]; rfl]
  exact And.intro on_r0 ⟨fun _ => k _ _ _ _ _ (by omega) (by omega) hs2 R2, fun h => absurd rfl h⟩
end LAW
