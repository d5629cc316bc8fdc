/-! The classes, the arrays' classes at the start. -/
theorem st_in2 : ∀ x ∈ ([.instantiable RX0 6, .instantiable RX1 7, .instantiable RX2 6, .instantiable RX3 18, .instantiable RX4 10, .instantiable RX5 8, .instantiable RX6 15, .instantiable RX7 5, .instantiable RX8 5, .instantiable RX9 9, .instantiable RX10 55, .arrayClass .char, .arrayClass .int, .arrayClass .long, .arrayClass .boolean, .arrayOver (.object "EvenFerry$State")] : List Cond), x ∈ lw_tbl := by decide +kernel
theorem st_arr {s : State} {args : Array Value} {ty : FieldType} (hty : ∀ C, ty ≠ .object C) (h : (Cond.arrayClass ty).before args s = true) : ∃ cA : ClassId, ArrOfT s cA ty ∧ va_RA s cA ty := by
  obtain ⟨cA, kA, comp, h1, h2, h3⟩ := Cond.arrayClass_spec h
  refine ⟨cA, fun n z => ⟨fun k h => (by cases h), kA, h2, comp, h3⟩, ?_⟩
  cases ty <;> first | exact h1 | exact absurd rfl (hty _)
theorem st_arrO {s : State} {args : Array Value} {C : String} (h : (Cond.arrayOver (.object C)).before args s = true) : ∃ cA : ClassId, ArrOfT s cA (.object C) ∧ va_RA s cA (.object C) := by
  obtain ⟨comp, c, k, h1, h2, h3, h4, h5⟩ := Cond.arrayOver_spec h
  exact ⟨c, fun n z => ⟨fun k h => (by cases h), k, h3, comp, h4⟩, k, comp, h3, h4, h1, h5⟩
theorem st_K {s : State} {args : Array Value} (hts : ∀ w ∈ lw_tbl, w.before args s = true) : ∃ (D : va_G) (cA : Nat → ClassId), va_K D vwCl [(cA 11, .char), (cA 12, .int), (cA 13, .long), (cA 14, .boolean), (cA 15, .object "EvenFerry$State")] s := by
  have hb : ∀ w ∈ am_big, w.before args s = true := fun w hw => hts w (List.mem_filter.mp hw).1
  have hw := fun x hx => hts x (st_in2 x hx)
  obtain ⟨c0, i0, k0⟩ := u_known (C := RX0) (T := TX0) (N := 6) (n := 6) hb am_inb0 (hw _ (by decide +kernel))
  obtain ⟨c1, i1, k1⟩ := u_known (C := RX1) (T := TX1) (N := 7) (n := 7) hb am_inb1 (hw _ (by decide +kernel))
  obtain ⟨c2, i2, k2⟩ := u_known (C := RX2) (T := TX2) (N := 6) (n := 6) hb am_inb2 (hw _ (by decide +kernel))
  obtain ⟨c3, i3, k3⟩ := u_known (C := RX3) (T := TX3) (N := 18) (n := 18) hb am_inb3 (hw _ (by decide +kernel))
  obtain ⟨c4, i4, k4⟩ := u_known (C := RX4) (T := TX4) (N := 10) (n := 10) hb am_inb4 (hw _ (by decide +kernel))
  obtain ⟨c5, i5, k5⟩ := u_known (C := RX5) (T := TX5) (N := 8) (n := 8) hb am_inb5 (hw _ (by decide +kernel))
  obtain ⟨c6, i6, k6⟩ := u_known (C := RX6) (T := TX6) (N := 15) (n := 15) hb am_inb6 (hw _ (by decide +kernel))
  obtain ⟨c7, i7, k7⟩ := u_known (C := RX7) (T := TX7) (N := 5) (n := 5) hb am_inb7 (hw _ (by decide +kernel))
  obtain ⟨c8, i8, k8⟩ := u_known (C := RX8) (T := TX8) (N := 5) (n := 5) hb am_inb8 (hw _ (by decide +kernel))
  obtain ⟨c9, i9, k9⟩ := u_known (C := RX9) (T := TX9) (N := 9) (n := 9) hb am_inb9 (hw _ (by decide +kernel))
  obtain ⟨c10, i10, k10⟩ := u_known (C := RX10) (T := TX10) (N := 55) (n := 55) hb am_inb10 (hw _ (by decide +kernel))
  obtain ⟨a1, x1⟩ := st_arr (ty := .char) (by intro C h; cases h) (hw _ (by decide +kernel))
  obtain ⟨a2, x2⟩ := st_arr (ty := .int) (by intro C h; cases h) (hw _ (by decide +kernel))
  obtain ⟨a3, x3⟩ := st_arr (ty := .long) (by intro C h; cases h) (hw _ (by decide +kernel))
  obtain ⟨a4, x4⟩ := st_arr (ty := .boolean) (by intro C h; cases h) (hw _ (by decide +kernel))
  obtain ⟨a5, x5⟩ := st_arrO (C := "EvenFerry$State") (hw _ (by decide +kernel))
  refine ⟨(fun k => [c0, c1, c2, c3, c4, c5, c6, c7, c8, c9, c10].getD k c0, fun k => [i0, i1, i2, i3, i4, i5, i6, i7, i8, i9, i10].getD k i0), fun k => [a1, a2, a3, a4, a5].getD (k - 11) a1, fun k q hq => ?_, fun k q hq => ?_⟩
  · match k, hq with
    | 0, hq => cases hq; exact k0
    | 1, hq => cases hq; exact k1
    | 2, hq => cases hq; exact k2
    | 3, hq => cases hq; exact k3
    | 4, hq => cases hq; exact k4
    | 5, hq => cases hq; exact k5
    | 6, hq => cases hq; exact k6
    | 7, hq => cases hq; exact k7
    | 8, hq => cases hq; exact k8
    | 9, hq => cases hq; exact k9
    | 10, hq => cases hq; exact k10
    | k + 11, hq => simp [vwCl] at hq
  · match k, hq with
    | 0, hq => cases hq; exact x1
    | 1, hq => cases hq; exact x2
    | 2, hq => cases hq; exact x3
    | 3, hq => cases hq; exact x4
    | 4, hq => cases hq; exact x5
    | k + 5, hq => simp at hq
