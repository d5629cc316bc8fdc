/-! The law from its entry. -/
def st_h0 (n : Nat) : am_H := (fun _ => 16, fun _ => 0, fun _ _ => 0, fun _ _ => 0, fun _ _ => 0, n, 0)
theorem st_ev {w : am_W} {ad av : Nat → Nat} {sf : Value} {sa b L x : Nat} {xs : Nat → Int32} (hs : ScW w b L xs) (hw : StW w ad av sf) (ht : TuW w sa) (hao : ∀ s, w.2.2.2.2 s → va_AO "EvenFerry$State" s) (hL : L ≤ 3584) :
    Ev w (zL w b) mL_law 61 0 [(0, .ref b)] [] (st_h0 x) (fun _ h' => hZ h' ≤ x + 6764 ∧ hS h' ≤ 611413) := by
  have z0 : hZ (st_h0 x) = x := rfl
  have s0 : hS (st_h0 x) = 0 := rfl
  refine bL_law_0 (d := 60) hs (fun h1 e1 => ?_)
  have z1 : hZ h1 = x + 1 := by rw [e1]; rfl
  have s1 : hS h1 = 9 := by rw [e1]; rfl
  have k1 : hK h1 x = 9 := by rw [e1]; show va_up (hK (st_h0 x)) (hZ (st_h0 x)) 9 x = 9; unfold va_up; rw [if_pos z0.symm]
  have i1 : hI h1 x = fun _ => 0 := by rw [e1]; show va_up (hI (st_h0 x)) (hZ (st_h0 x)) (fun _ => 0) x = _; unfold va_up; rw [if_pos z0.symm]
  rw [z0]
  refine c_initX (d := 57) (y := x + 108) z1 k1 i1 hao (by omega) (fun h2 F2 z2 s2 R2 => ⟨rfl, fun h4 e4 => ?_⟩)
  have z4 : hZ h4 = x + 69 + 1 := by rw [e4]; show hZ h2 + 1 = _; omega
  have s4 : hS h4 = 9 + 10807 + 55 := by rw [e4]; show hS h2 + 55 = _; omega
  have k4 : hK h4 (x + 69) = 10 := by rw [e4]; show va_up (hK h2) (hZ h2) 10 (x + 69) = 10; unfold va_up; rw [if_pos z2.symm]
  have i4 : hI h4 (x + 69) = fun _ => 0 := by rw [e4]; show va_up (hI h2) (hZ h2) (fun _ => 0) (x + 69) = _; unfold va_up; rw [if_pos z2.symm]
  have R4 : RepX x (x + 108) h4 A0R := by
    have sm : ∀ a, a ≠ x + 69 → same h2 h4 a := fun a ha => by rw [e4]; exact nO_same h2 10 55 (by omega)
    exact R2.sm (fun a y1 y2 => sm a (by omega)) (fun a y1 y2 => sm a (by omega)) (by omega)
  rw [z2]
  refine c_initM (d := 59) (m := x + 69) z4 k4 i4 (fun h5 F5 z5 s5 R5 => ⟨rfl, fun h7 e7 => ?_⟩)
  have z7 : hZ h7 = x + 108 := by rw [e7]; show hZ h5 + 1 = _; omega
  have s7 : hS h7 = 24661 := by rw [e7]; show hS h5 + 1 = _; omega
  have sm7 : ∀ a, a ≠ x + 107 → same h5 h7 a := fun a ha => by rw [e7]; exact nA_same h5 13 1 (by omega)
  have R7 : RepX x (x + 108) h7 A0R := by
    have R5' : RepX x (x + 108) h5 A0R := R4.sm (fun a y1 y2 => F5 a (by omega)) (fun a y1 y2 => by omega) (by omega)
    exact R5'.sm (fun a y1 y2 => sm7 a (by omega)) (fun a y1 y2 => by omega) (by omega)
  have M7 : RepM (x + 69) h7 A0R := R5.sm (fun a y1 y2 => sm7 a (by omega))
  have k7 : hK h7 (x + 107) = 13 := by rw [e7]; show va_up (hK h5) (hZ h5) 13 (x + 107) = 13; unfold va_up; rw [if_pos (by omega)]
  have n7 : hN h7 (x + 107) = 1 := by rw [e7]; show va_up (hN h5) (hZ h5) 1 (x + 107) = 1; unfold va_up; rw [if_pos (by omega)]
  rw [z5]
  have E := law_loop (x := x) (zb := x + 108) (sb := 24661) (Q := fun _ h' => hZ h' ≤ x + 6764 ∧ hS h' ≤ 611413) hs hw (turnC ht) hL (fun h A t ht I => by
    obtain ⟨-, -, -, -, g1, g2⟩ := I
    exact ⟨by omega, by omega⟩) 513 0 h7 A0R rfl (Nat.zero_le _) ⟨R7, M7, ⟨k7, n7⟩, by omega, by omega, by omega⟩
  have e0 : lvL b x (7 * 0) = [(0, .ref b), (1, .ref x), (2, .ref (x + 69)), (3, .ref (x + 69 + 38)), (4, .int 0)] := by
    show [(0, Value.ref b), (1, .ref x), (2, .ref (x + 69)), (3, .ref (x + 107)), (4, .int (nI 0))] = _
    rw [nI_0]
  rw [e0] at E
  exact E
theorem whole_start {p : Program} {e : Env} {s : State} {m : MethodId} {below : List Frame} {meth : Method} {c : Code} (l : Launch) {b L : Nat} {xs : Nat → Int32} (hnm : meth.name = x.name) (htr : l.stackTraces = false) (hL : L ≤ 3584) (C0 : lw_At p s m meth c b L xs) : W p l e room_1 s m #[Value.ref b] below meth c s.heap [] 0 0 (lw_Z below #[Value.ref b] s) (entryFrame m ([Value.ref b] : List Value).toArray 7) := by
  obtain ⟨hx, hb, hr, hml, hown, hts, hX, hbl, hlocks, hgv⟩ := C0
  obtain ⟨ad, av, sf, sa, hsf, hP⟩ := st_of hts hX hgv
  obtain ⟨D, cA, hK0⟩ := st_K hts
  obtain ⟨w, ew⟩ : ∃ w : am_W, w = (D, cA, s.heap.size, s.heap, stP s.heap.size s.heap ad av sf sa b L xs) := ⟨_, rfl⟩
  have hs : ScW w b L xs := by rw [ew]; exact ⟨hbl, fun U h => h.2.1⟩
  have hw : StW w ad av sf := by rw [ew]; exact ⟨hsf, fun U h => h.1⟩
  have ht : TuW w sa := by rw [ew]; exact fun U h => h.2.2.2
  have hao : ∀ U, w.2.2.2.2 U → va_AO "EvenFerry$State" U := by rw [ew]; exact fun U h => h.2.2.1
  have hKw : am_Kw w s := by
    rw [ew]
    refine ⟨hK0, fun y hy => ?_, hP, fun s U hW h => stP.warm hW h, fun U g mk a h => stP.calling h⟩
    obtain ⟨y1, y2⟩ := List.mem_filter.mp hy
    have h1 := hts y (List.mem_append_right _ y1)
    cases y <;> first | exact va_Nw.of rfl h1 | exact absurd y2 (by simp [am_isN])
  have hR : am_R w (st_h0 s.heap.size) s.heap := by
    rw [ew]
    refine ⟨rfl, rfl, Nat.lt_of_le_of_lt (Nat.zero_le _) hbl, Nat.le_refl _, fun a _ => rfl, fun a ha => absurd ha (by show ¬ 16 < 16; decide)⟩
  have hsz : w.2.2.1 = s.heap.size := by rw [ew]
  obtain ⟨r, h', ⟨q1, q2⟩, z, s', g⟩ := st_ev (x := s.heap.size) hs hw ht hao hL
  have z0 : hZ (st_h0 s.heap.size) = s.heap.size := rfl
  have s0 : hS (st_h0 s.heap.size) = 0 := rfl
  have hl := lv_entry ([.ref b]) (n := 7) (Nat.le_of_ble_eq_true rfl)
  rw [lg_entry_eq]
  have hb1 : hZ h' - hZ (st_h0 s.heap.size) ≤ 601024 := by omega
  have hb2 : hS h' - hS (st_h0 s.heap.size) ≤ 7293034 := by omega
  have K := g p l e room_1 s m #[Value.ref b] below meth c (hZ h' - hZ (st_h0 s.heap.size)) (hS h' - hS (st_h0 s.heap.size)) ⟨hx, hb, hr, hlocks, hml, hown, hnm, fun y hy => hts y (List.mem_filter.mp hy).1, hKw, (by decide : 61 ≤ 2048), (by decide : 6100 ≤ 84000), hb1, hb2, htr⟩ s.heap [] 0 0 _ hR hl (fun q hq => by cases hq) (by omega) (by omega)
  intro T hT X
  obtain ⟨t, a1, a2⟩ := K T hT X
  exact ⟨t, a1, a2 ⟨hb1, hb2, hsz.symm, rfl⟩⟩
