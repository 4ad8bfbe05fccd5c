theorem on_t {x : Int} (h : inR x) : (Int32.ofInt x).toInt = x := Int32.toInt_ofInt_of_le (by have := h.1; omega) (by have := h.2; omega)
theorem on_r (x : Int32) : inR x.toInt := ⟨by have := Int32.le_toInt x; omega, by have := Int32.toInt_lt x; omega⟩
theorem on_lt {x y : Int} (hx : inR x) (hy : inR y) : Int32.ofInt x < Int32.ofInt y ↔ x < y := by rw [Int32.lt_iff_toInt_lt, on_t hx, on_t hy]
theorem on_le {x y : Int} (hx : inR x) (hy : inR y) : Int32.ofInt x ≤ Int32.ofInt y ↔ x ≤ y := by rw [Int32.le_iff_toInt_le, on_t hx, on_t hy]
theorem on_eq {x y : Int} (hx : inR x) (hy : inR y) : Int32.ofInt x = Int32.ofInt y ↔ x = y := by rw [← Int32.toInt_inj, on_t hx, on_t hy]
theorem on_0 : (0 : Int32) = Int32.ofInt 0 := rfl
theorem on_r0 : inR 0 := ⟨by decide, by decide⟩
theorem on_add (x y : Int) : Int32.ofInt (x + y) = Int32.ofInt x + Int32.ofInt y := by
  apply Int32.toInt_inj.mp
  simp [Int32.toInt_ofInt, Int32.toInt_add]
theorem on_sub (x y : Int) : Int32.ofInt (x - y) = Int32.ofInt x - Int32.ofInt y := by
  apply Int32.toInt_inj.mp
  simp [Int32.toInt_ofInt, Int32.toInt_sub]
theorem on_mul (x y : Int) : Int32.ofInt (x * y) = Int32.ofInt x * Int32.ofInt y := by
  apply Int32.toInt_inj.mp
  simp [Int32.toInt_ofInt, Int32.toInt_mul]
theorem on_neg (x : Int) : Int32.ofInt (-x) = -Int32.ofInt x := by
  apply Int32.toInt_inj.mp
  simp [Int32.toInt_ofInt, Int32.toInt_neg]
theorem on_div {x y : Int} (hx : inR x) (hy : inR y) (h0 : 0 < y) : Int32.ofInt (x.tdiv y) = Int32.ofInt x / Int32.ofInt y := by
  apply Int32.toInt_inj.mp
  rw [Int32.toInt_div, on_t hx, on_t hy]
  rw [Int32.toInt_ofInt]
theorem on_rem {x y : Int} (hx : inR x) (hy : inR y) (h0 : 0 < y) : Int32.ofInt (x.tmod y) = Int32.ofInt x - Int32.ofInt x / Int32.ofInt y * Int32.ofInt y := by
  rw [← on_div hx hy h0, ← on_mul, ← on_sub]
  congr 1
  have := Int.tmod_add_mul_tdiv x y
  have e : y * x.tdiv y = x.tdiv y * y := Int.mul_comm _ _
  omega
theorem on_cl {x : Int} (h0 : 0 ≤ x) (h1 : x ≤ 2147483647) : (Int32.ofInt x).toNatClampNeg = x.toNat := by
  rw [Int32.toNatClampNeg_ofInt_of_le (by omega) (by omega)]
theorem on_in {x : Int} {n : Nat} (h0 : 0 ≤ x) (h1 : x < n) (hn : n ≤ 65536) : vp_in (Int32.ofInt x) n := by
  rw [vp_in_iff, on_t ⟨by omega, by omega⟩]
  exact ⟨h0, h1⟩
theorem on_nat (n : Nat) : Int32.ofInt (n : Int) = Int32.ofNat n := Int32.ofInt_eq_ofNat
theorem on_nneg {x : Int} (h0 : 0 ≤ x) (h1 : x ≤ 2147483647) : ¬ Int32.ofInt x < 0 := by
  rw [on_0, on_lt ⟨by omega, by omega⟩ on_r0]; omega
