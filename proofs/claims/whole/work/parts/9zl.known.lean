/-! what is known at the start -/
theorem tt {args : Array Value} {s : State} (hts : ∀ w ∈ lw_tbl, w.before args s = true) {w : Cond} (i : Nat) (h : tables_1[i]? = some w) : w.before args s = true := hts w (lw_of (List.mem_of_getElem? h))
theorem l_kn {args : Array Value} {s : State} (hts : ∀ w ∈ lw_tbl, w.before args s = true) (k : Nat) : ∃ (c : ClassId) (iS : Nat → Nat), ∀ q, vwCl[k]? = some q → u_Kn s q.1 q.2.1 q.2.2 c iS := by
  match k with
  | 0 => 
    obtain ⟨c, iS, h⟩ := u_known (C := RX0) (T := TX0) (N := 2) (n := 2) hts inX0 (tt hts (w := .instantiable RX0 2) 486 (by decide +kernel))
    exact ⟨c, iS, fun q hq => by cases hq; exact h⟩
  | 1 => 
    obtain ⟨c, iS, h⟩ := u_known (C := RX1) (T := TX1) (N := 2) (n := 2) hts inX1 (tt hts (w := .instantiable RX1 2) 478 (by decide +kernel))
    exact ⟨c, iS, fun q hq => by cases hq; exact h⟩
  | 2 => 
    obtain ⟨c, iS, h⟩ := u_known (C := RX2) (T := TX2) (N := 6) (n := 6) hts inX2 (tt hts (w := .instantiable RX2 6) 163 (by decide +kernel))
    exact ⟨c, iS, fun q hq => by cases hq; exact h⟩
  | 3 => 
    obtain ⟨c, iS, h⟩ := u_known (C := RX3) (T := TX3) (N := 2) (n := 2) hts inX3 (tt hts (w := .instantiable RX3 2) 460 (by decide +kernel))
    exact ⟨c, iS, fun q hq => by cases hq; exact h⟩
  | 4 => 
    obtain ⟨c, iS, h⟩ := u_known (C := RX4) (T := TX4) (N := 7) (n := 7) hts inX4 (tt hts (w := .instantiable RX4 7) 49 (by decide +kernel))
    exact ⟨c, iS, fun q hq => by cases hq; exact h⟩
  | 5 => 
    obtain ⟨c, iS, h⟩ := u_known (C := RX5) (T := TX5) (N := 2) (n := 2) hts inX5 (tt hts (w := .instantiable RX5 2) 469 (by decide +kernel))
    exact ⟨c, iS, fun q hq => by cases hq; exact h⟩
  | 6 => 
    obtain ⟨c, iS, h⟩ := u_known (C := RX6) (T := TX6) (N := 5) (n := 5) hts inX6 (tt hts (w := .instantiable RX6 5) 96 (by decide +kernel))
    exact ⟨c, iS, fun q hq => by cases hq; exact h⟩
  | 7 => 
    obtain ⟨c, iS, h⟩ := u_known (C := RX7) (T := TX7) (N := 14) (n := 14) hts inX7 (tt hts (w := .instantiable RX7 14) 200 (by decide +kernel))
    exact ⟨c, iS, fun q hq => by cases hq; exact h⟩
  | 8 => 
    obtain ⟨c, iS, h⟩ := u_known (C := RX8) (T := TX8) (N := 3) (n := 3) hts inX8 (tt hts (w := .instantiable RX8 3) 26 (by decide +kernel))
    exact ⟨c, iS, fun q hq => by cases hq; exact h⟩
  | 9 => 
    obtain ⟨c, iS, h⟩ := u_known (C := RX9) (T := TX9) (N := 4) (n := 4) hts inX9 (tt hts (w := .instantiable RX9 4) 169 (by decide +kernel))
    exact ⟨c, iS, fun q hq => by cases hq; exact h⟩
  | 10 => 
    obtain ⟨c, iS, h⟩ := u_known (C := RX10) (T := TX10) (N := 6) (n := 6) hts inX10 (tt hts (w := .instantiable RX10 6) 127 (by decide +kernel))
    exact ⟨c, iS, fun q hq => by cases hq; exact h⟩
  | 11 => 
    obtain ⟨c, iS, h⟩ := u_known (C := RX11) (T := TX11) (N := 18) (n := 18) hts inX11 (tt hts (w := .instantiable RX11 18) 18 (by decide +kernel))
    exact ⟨c, iS, fun q hq => by cases hq; exact h⟩
  | 12 => 
    obtain ⟨c, iS, h⟩ := u_known (C := RX12) (T := TX12) (N := 60) (n := 60) hts inX12 (tt hts (w := .instantiable RX12 60) 848 (by decide +kernel))
    exact ⟨c, iS, fun q hq => by cases hq; exact h⟩
  | k + 13 => exact ⟨0, fun _ => 0, fun q hq => by simp [vwCl] at hq⟩
theorem l_arr {args : Array Value} {s : State} {ty : FieldType} (h : (Cond.arrayClass ty).before args s = true) (ho : ∀ C, ty ≠ .object C) : ∃ c : ClassId, ArrOfT s c ty ∧ va_RA s c ty := by
  obtain ⟨c, k, comp, h1, h2, h3⟩ := Cond.arrayClass_spec h
  refine ⟨c, fun n z => ⟨fun k h => (by cases h), k, h2, comp, h3⟩, ?_⟩
  cases ty with
  | object C => exact absurd rfl (ho C)
  | _ => exact h1
theorem l_arrO {args : Array Value} {s : State} {C : String} (h : (Cond.arrayOver (.object C)).before args s = true) : ∃ c : ClassId, ArrOfT s c (.object C) ∧ va_RA s c (.object C) := by
  obtain ⟨comp, c, k, h1, h2, h3, h4, h5⟩ := Cond.arrayOver_spec h
  exact ⟨c, fun n z => ⟨fun k h => (by cases h), k, h3, comp, h4⟩, k, comp, h3, h4, h1, h5⟩
theorem l_nc {args : Array Value} {s : State} (h : (Jvm.Cond.and given_1 narrow_1).before args s = true) : ∀ q ∈ oNcs, va_Nc q.1 q.2 s := by
  have hs := flat_of_before _ h
  have h0 : va_Nc RX0 RX1 s := va_Nc.of (hs (.not (.castable RX0 RX1)) (by decide +kernel))
  have h1 : va_Nc RX0 RX3 s := va_Nc.of (hs (.not (.castable RX0 RX3)) (by decide +kernel))
  have h2 : va_Nc RX0 RX5 s := va_Nc.of (hs (.not (.castable RX0 RX5)) (by decide +kernel))
  have h3 : va_Nc RX0 RX10 s := va_Nc.of (hs (.not (.castable RX0 RX10)) (by decide +kernel))
  have h4 : va_Nc RX1 RX3 s := va_Nc.of (hs (.not (.castable RX1 RX3)) (by decide +kernel))
  have h5 : va_Nc RX1 RX5 s := va_Nc.of (hs (.not (.castable RX1 RX5)) (by decide +kernel))
  have h6 : va_Nc RX1 RX10 s := va_Nc.of (hs (.not (.castable RX1 RX10)) (by decide +kernel))
  have h7 : va_Nc RX3 RX1 s := va_Nc.of (hs (.not (.castable RX3 RX1)) (by decide +kernel))
  have h8 : va_Nc RX3 RX5 s := va_Nc.of (hs (.not (.castable RX3 RX5)) (by decide +kernel))
  have h9 : va_Nc RX3 RX10 s := va_Nc.of (hs (.not (.castable RX3 RX10)) (by decide +kernel))
  have h10 : va_Nc RX5 RX1 s := va_Nc.of (hs (.not (.castable RX5 RX1)) (by decide +kernel))
  have h11 : va_Nc RX5 RX10 s := va_Nc.of (hs (.not (.castable RX5 RX10)) (by decide +kernel))
  have h12 : va_Nc RX10 RX1 s := va_Nc.of (hs (.not (.castable RX10 RX1)) (by decide +kernel))
  have h13 : va_Nc RX10 RX3 s := va_Nc.of (hs (.not (.castable RX10 RX3)) (by decide +kernel))
  have h14 : va_Nc RX10 RX5 s := va_Nc.of (hs (.not (.castable RX10 RX5)) (by decide +kernel))
  exact List.forall_mem_cons.mpr ⟨h0, List.forall_mem_cons.mpr ⟨h1, List.forall_mem_cons.mpr ⟨h2, List.forall_mem_cons.mpr ⟨h3, List.forall_mem_cons.mpr ⟨h4, List.forall_mem_cons.mpr ⟨h5, List.forall_mem_cons.mpr ⟨h6, List.forall_mem_cons.mpr ⟨h7, List.forall_mem_cons.mpr ⟨h8, List.forall_mem_cons.mpr ⟨h9, List.forall_mem_cons.mpr ⟨h10, List.forall_mem_cons.mpr ⟨h11, List.forall_mem_cons.mpr ⟨h12, List.forall_mem_cons.mpr ⟨h13, List.forall_mem_cons.mpr ⟨h14, fun _ h => absurd h List.not_mem_nil⟩⟩⟩⟩⟩⟩⟩⟩⟩⟩⟩⟩⟩⟩⟩
theorem l_yes {args : Array Value} {s : State} (hts : ∀ w ∈ lw_tbl, w.before args s = true) : ∀ w ∈ oYes, va_Nw w s := by
  have h0 : va_Nw (.castable RX1 RX0) s := va_Nw.of rfl (tt hts (w := .castable RX1 RX0) 1336 (by decide +kernel))
  have h1 : va_Nw (.castable RX3 RX0) s := va_Nw.of rfl (tt hts (w := .castable RX3 RX0) 1334 (by decide +kernel))
  have h2 : va_Nw (.castable RX5 RX0) s := va_Nw.of rfl (tt hts (w := .castable RX5 RX0) 1335 (by decide +kernel))
  have h3 : va_Nw (.castable RX10 RX0) s := va_Nw.of rfl (tt hts (w := .castable RX10 RX0) 1333 (by decide +kernel))
  have h4 : va_Nw (.castable RX5 RX3) s := va_Nw.of rfl (tt hts (w := .castable RX5 RX3) 1332 (by decide +kernel))
  exact List.forall_mem_cons.mpr ⟨h0, List.forall_mem_cons.mpr ⟨h1, List.forall_mem_cons.mpr ⟨h2, List.forall_mem_cons.mpr ⟨h3, List.forall_mem_cons.mpr ⟨h4, fun _ h => absurd h List.not_mem_nil⟩⟩⟩⟩⟩
theorem l_nst {args : Array Value} {s : State} (hts : ∀ w ∈ lw_tbl, w.before args s = true) : ∀ q ∈ oNst, va_Nw (.methodLinkNest q.1 q.2.1 q.2.2.1 q.2.2.2) s := by
  have h0 : va_Nw (.methodLinkNest RX11 9 yX8_init RX11) s := va_Nw.of rfl (tt hts (w := .methodLinkNest RX11 9 yX8_init RX11) 27 (by decide +kernel))
  have h1 : va_Nw (.methodLinkNest RX11 18 yX4_init RX11) s := va_Nw.of rfl (tt hts (w := .methodLinkNest RX11 18 yX4_init RX11) 50 (by decide +kernel))
  have h2 : va_Nw (.methodLinkNest RX11 38 yX6_init RX11) s := va_Nw.of rfl (tt hts (w := .methodLinkNest RX11 38 yX6_init RX11) 97 (by decide +kernel))
  have h3 : va_Nw (.methodLinkNest RX11 59 yX2_init RX11) s := va_Nw.of rfl (tt hts (w := .methodLinkNest RX11 59 yX2_init RX11) 164 (by decide +kernel))
  have h4 : va_Nw (.methodLinkNest RX2 13 yX9_init RX11) s := va_Nw.of rfl (tt hts (w := .methodLinkNest RX2 13 yX9_init RX11) 170 (by decide +kernel))
  have h5 : va_Nw (.methodLinkNest RX2 27 yX7_init RX11) s := va_Nw.of rfl (tt hts (w := .methodLinkNest RX2 27 yX7_init RX11) 201 (by decide +kernel))
  exact List.forall_mem_cons.mpr ⟨h0, List.forall_mem_cons.mpr ⟨h1, List.forall_mem_cons.mpr ⟨h2, List.forall_mem_cons.mpr ⟨h3, List.forall_mem_cons.mpr ⟨h4, List.forall_mem_cons.mpr ⟨h5, fun _ h => absurd h List.not_mem_nil⟩⟩⟩⟩⟩⟩
theorem l_known {args : Array Value} {s : State} (hts : ∀ w ∈ lw_tbl, w.before args s = true) (hgv : (Jvm.Cond.and given_1 narrow_1).before args s = true) : ∃ (D : va_G) (ids : Nat → ClassId), oKn D ids s := by
  have kn := l_kn hts
  obtain ⟨a0, x0⟩ := l_arr (ty := .int) (tt hts 47 (by decide +kernel)) (fun C h => by cases h)
  obtain ⟨a1, x1⟩ := l_arr (ty := .byte) (tt hts 1034 (by decide +kernel)) (fun C h => by cases h)
  obtain ⟨a2, x2⟩ := l_arr (ty := .boolean) (tt hts 250 (by decide +kernel)) (fun C h => by cases h)
  have o6 : (Cond.arrayOver (.object RX6)).before args s = true := tt hts 93 (by decide +kernel)
  have o0 : (Cond.arrayOver (.object RX0)).before args s = true := tt hts 95 (by decide +kernel)
  obtain ⟨a3, x3⟩ := l_arrO o6
  obtain ⟨a4, x4⟩ := l_arrO o0
  refine ⟨(fun k => Classical.choose (kn k), fun k => Classical.choose (Classical.choose_spec (kn k))), fun k => if k = 13 then a0 else if k = 14 then a1 else if k = 15 then a2 else if k = 16 then a3 else a4, ⟨fun k q hq => Classical.choose_spec (Classical.choose_spec (kn k)) q hq, fun k q hq => ?_⟩, l_nc hgv, l_yes hts, l_nst hts, va_AO.of o6, va_AO.of o0⟩
  match k, hq with
  | 0, hq => cases hq; exact x0
  | 1, hq => cases hq; exact x1
  | 2, hq => cases hq; exact x2
  | 3, hq => cases hq; exact x3
  | 4, hq => cases hq; exact x4
  | k + 5, hq => simp [oTys] at hq
