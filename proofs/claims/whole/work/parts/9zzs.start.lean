/-! The run's start: what the Statement gives of strings, statics, classes. -/
def nrw : List Cond := flatC (Jvm.Cond.and given_1 narrow_1)
def stm (i : Nat) : Term := if i = 0 then .string "EvenFerry$Tape" 71 else .string "EvenFerry$Tape" 55
theorem nr_at {args : Array Value} {s : State} (h : (Jvm.Cond.and given_1 narrow_1).before args s = true) (i : Nat) {c : Cond} (e : nrw[i]? = some c) : c.before args s = true := flat_of_before _ h c (List.mem_of_getElem? e)
theorem nr_el0 : ∀ j : Fin 208, nrw[26 + j.1]? = some (.eq (.elem (.field (stm 0) "java/lang/String" "value" "[B") (.int (Int32.ofNat j.1))) (.int ((sbyt.getD 0 []).getD j.1 0))) := by decide +kernel
theorem nr_el1 : ∀ j : Fin 8, nrw[238 + j.1]? = some (.eq (.elem (.field (stm 1) "java/lang/String" "value" "[B") (.int (Int32.ofNat j.1))) (.int ((sbyt.getD 1 []).getD j.1 0))) := by decide +kernel
theorem nr_ex : nrw[22]? = some (.exactly (stm 0) "java/lang/String") ∧ nrw[234]? = some (.exactly (stm 1) "java/lang/String") ∧ nrw[247]? = some (.exactly (.string "EvenFerry" 198) "java/lang/String") := by decide +kernel
theorem nr_co : nrw[23]? = some (.eq (.field (stm 0) "java/lang/String" "coder" "B") (.int 0)) ∧ nrw[235]? = some (.eq (.field (stm 1) "java/lang/String" "coder" "B") (.int 0)) := by decide +kernel
theorem nr_ar : nrw[24]? = some (.arrayOf (.field (stm 0) "java/lang/String" "value" "[B") .byte) ∧ nrw[236]? = some (.arrayOf (.field (stm 1) "java/lang/String" "value" "[B") .byte) := by decide +kernel
theorem nr_le : nrw[25]? = some (.eq (.length (.field (stm 0) "java/lang/String" "value" "[B")) (.int (Int32.ofNat (slen.getD 0 0)))) ∧ nrw[237]? = some (.eq (.length (.field (stm 1) "java/lang/String" "value" "[B")) (.int (Int32.ofNat (slen.getD 1 0)))) := by decide +kernel
theorem nr_ne : nrw[246]? = some (.not (.eq (stm 0) (stm 1))) := by decide +kernel
theorem nr_st : nrw[4]? = some (.eq (.static "java/lang/String" "COMPACT_STRINGS" "Z") (.int 1)) ∧ nrw[5]? = some (.isRef (.static "jdk/internal/util/Preconditions" "SIOOBE_FORMATTER" "Ljava/util/function/BiFunction;")) ∧ nrw[9]? = some (.isRef (.static Bundle.tN "UNASSIGNED_STACK" Bundle.steD)) ∧ nrw[10]? = some (.isRef (.static Bundle.tN "SUPPRESSED_SENTINEL" Bundle.listD)) := by decide +kernel
def st_ws : List Cond := [.stringRef "EvenFerry$Tape" 71 stxW, .stringRef "EvenFerry$Tape" 55 stxS, .laysStatic "java/lang/String" "COMPACT_STRINGS" "Z", .initialized "java/lang/String", .laysStatic "jdk/internal/util/Preconditions" "SIOOBE_FORMATTER" "Ljava/util/function/BiFunction;", .initialized "jdk/internal/util/Preconditions", .castable "[I" "java/lang/Cloneable", .arrayOver (.object "EvenFerry$State"), .laysStatic Bundle.tN "UNASSIGNED_STACK" Bundle.steD, .laysStatic Bundle.tN "SUPPRESSED_SENTINEL" Bundle.listD, .initialized Bundle.tN, .stringRef "EvenFerry" 198 "no turner who waits then"]
theorem st_in : ∀ x ∈ st_ws ++ tu_B, x ∈ lw_tbl := by decide +kernel
def stP (w0 : Nat) (H0 : Heap) (ad av : Nat → Nat) (sf : Value) (sa b L : Nat) (xs : Nat → Int32) (s : State) : Prop :=
  (vk_S 2 slen sbyt ad av (fun q => w0 ≤ q) s H0 ∧ vk_R "EvenFerry$Tape" 71 stxW (ad 0) s ∧ vk_R "EvenFerry$Tape" 55 stxS (ad 1) s ∧ va_Z "java/lang/String" "COMPACT_STRINGS" "Z" (.int 1) (fun q => w0 ≤ q) s H0 ∧ va_Z "jdk/internal/util/Preconditions" "SIOOBE_FORMATTER" "Ljava/util/function/BiFunction;" sf (fun q => w0 ≤ q) s H0 ∧ va_Nw (.castable "[I" "java/lang/Cloneable") s) ∧
  va_X b L xs s H0 ∧ va_AO "EvenFerry$State" s ∧
  (vk_R "EvenFerry" 198 "no turner who waits then" sa s ∧ vx_Zq Bundle.tN "UNASSIGNED_STACK" Bundle.steD (fun q => w0 ≤ q) s H0 ∧ vx_Zq Bundle.tN "SUPPRESSED_SENTINEL" Bundle.listD (fun q => w0 ≤ q) s H0 ∧ ∀ x ∈ tu_B, va_Nw x s)
theorem tu_B.warm {s U : State} (hW : s.WarmedH U.vm) (h : ∀ x ∈ tu_B, va_Nw x s) : ∀ x ∈ tu_B, va_Nw x U := fun x hx => by
  have h1 := h x hx
  simp only [tu_B, List.mem_cons, List.not_mem_nil, or_false] at hx
  rcases hx with rfl | rfl | rfl | rfl
  · exact va_Nw.warmC hW h1
  · exact va_Nw.warmD hW h1
  · exact va_Nw.warmD hW h1
  · exact va_Nw.warmD hW h1
theorem stP.warm {w0 : Nat} {H0 : Heap} {ad av : Nat → Nat} {sf : Value} {sa b L : Nat} {xs : Nat → Int32} {s U : State} (hW : s.WarmedH U.vm) (h : stP w0 H0 ad av sf sa b L xs s) : stP w0 H0 ad av sf sa b L xs U := by
  obtain ⟨⟨a1, a2, a3, a4, a5, a6⟩, b1, c1, d1, d2, d3, d4⟩ := h
  exact ⟨⟨a1.moved hW.alike, a2.warm hW, a3.warm hW, a4.moved hW.alike, a5.moved hW.alike, va_Nw.warmC hW a6⟩, b1.moved hW.alike, c1.moved hW.alike, d1.warm hW, d2.moved hW.alike, d3.moved hW.alike, tu_B.warm hW d4⟩
theorem stP.calling {w0 : Nat} {H0 : Heap} {ad av : Nat → Nat} {sf : Value} {sa b L : Nat} {xs : Nat → Int32} {U : State} {g : JFrame} {mk : MethodId} {a : Array Value} (h : stP w0 H0 ad av sf sa b L xs U) : stP w0 H0 ad av sf sa b L xs (U.calling g mk a) :=
  h.warm (U := U.calling g mk a) (State.WarmedH.refl U)
theorem st_of {s : State} {args : Array Value} {b L : Nat} {xs : Nat → Int32} (hts : ∀ w ∈ lw_tbl, w.before args s = true) (hX : va_X b L xs s s.heap) (hgv : (Jvm.Cond.and given_1 narrow_1).before args s = true) :
    ∃ (ad av : Nat → Nat) (sf : Value) (sa : Nat), (sf = .null ∨ ∃ r, sf = .ref r) ∧ stP s.heap.size s.heap ad av sf sa b L xs s := by
  have hA : ∀ a : Nat, a < s.heap.size → ¬ (fun q : Nat => s.heap.size ≤ q) a := fun a h => Nat.not_le.mpr h
  have hw : ∀ x ∈ st_ws ++ tu_B, x.before args s = true := fun x hx => hts x (st_in x hx)
  have two : ∀ i : Nat, i < 2 → i = 0 ∨ i = 1 := fun i h => by omega
  obtain ⟨ad, av, hS, hev⟩ := vk_Sof (args := args) (s := s) (N := 2) (tm := stm) (len := slen) (byt := sbyt) (A := fun q : Nat => s.heap.size ≤ q) (by decide +kernel)
    (fun i hi => by rcases two i hi with rfl | rfl; exact nr_at hgv _ nr_ex.1; exact nr_at hgv _ nr_ex.2.1)
    (fun i hi => by rcases two i hi with rfl | rfl; exact nr_at hgv _ nr_co.1; exact nr_at hgv _ nr_co.2)
    (fun i hi => by rcases two i hi with rfl | rfl; exact nr_at hgv _ nr_ar.1; exact nr_at hgv _ nr_ar.2)
    (fun i hi => by rcases two i hi with rfl | rfl; exact nr_at hgv _ nr_le.1; exact nr_at hgv _ nr_le.2)
    (fun i hi => by rcases two i hi with rfl | rfl; exact fun j hj => nr_at hgv _ (nr_el0 ⟨j, hj⟩); exact fun j hj => nr_at hgv _ (nr_el1 ⟨j, hj⟩))
    (fun i j hi hj hij => by
      rcases two i hi with rfl | rfl <;> rcases two j hj with rfl | rfl
      · exact absurd rfl hij
      · exact Or.inl (nr_at hgv _ nr_ne)
      · exact Or.inr (nr_at hgv _ nr_ne)
      · exact absurd rfl hij) hA
  obtain ⟨sa, c9, cA, kA, q1, -⟩ := Cond.exactly_spec (args := args) (first := s) (o := none) (s := s) (idx := []) (t := .string "EvenFerry" 198) (cls := "java/lang/String") (nr_at hgv _ nr_ex.2.2)
  have z1 : va_Z "java/lang/String" "COMPACT_STRINGS" "Z" (.int 1) (fun q => s.heap.size ≤ q) s s.heap := va_Zof (hw _ (by decide +kernel)) (hw _ (by decide +kernel)) (va_eqt (nr_at hgv _ nr_st.1)) hA
  have z2 : va_Zq "jdk/internal/util/Preconditions" "SIOOBE_FORMATTER" "Ljava/util/function/BiFunction;" (fun q => s.heap.size ≤ q) s s.heap := va_Zqof (hw _ (by decide +kernel)) (hw _ (by decide +kernel)) (nr_at hgv _ nr_st.2.1) hA
  obtain ⟨sf, hsf, z3⟩ : ∃ sf : Value, (sf = .null ∨ ∃ r, sf = .ref r) ∧ va_Z "jdk/internal/util/Preconditions" "SIOOBE_FORMATTER" "Ljava/util/function/BiFunction;" sf (fun q => s.heap.size ≤ q) s s.heap := by
    rcases z2 with z | ⟨t, z⟩
    · exact ⟨_, Or.inl rfl, z⟩
    · exact ⟨_, Or.inr ⟨t, rfl⟩, z⟩
  refine ⟨ad, av, sf, sa, hsf, ⟨hS, vk_R.of (hw _ (by decide +kernel)) (hev 0 (by decide)), vk_R.of (hw _ (by decide +kernel)) (hev 1 (by decide)), z1, z3, va_Nw.of rfl (hw _ (by decide +kernel))⟩, hX, va_AO.of (hw _ (by decide +kernel)), vk_R.of (hw _ (by decide +kernel)) q1, vx_Zqof (hw _ (by decide +kernel)) (hw _ (by decide +kernel)) (nr_at hgv _ nr_st.2.2.1) hA, vx_Zqof (hw _ (by decide +kernel)) (hw _ (by decide +kernel)) (nr_at hgv _ nr_st.2.2.2) hA, fun x hx => va_Nw.of ?_ (hw x (List.mem_append_right _ hx))⟩
  have : ∀ z ∈ tu_B, z.onTables = true := by decide +kernel
  exact this x hx
