/-! The law's call of turn. -/
section TURNC
variable {w : am_W} {b x sa : Nat}
theorem sJ_same (h : am_H) (a k : Nat) (v : Int64) {c : Nat} (hc : c ≠ a) : same h (sJ h a k v) c := ⟨rfl, rfl, rfl, va_up_ne _ _ hc, rfl⟩
theorem turnC (hw : TuW w sa) : TurnC w b x := by
  intro h A i p mi Q R ko no hz k
  have k9 : hK h x = 9 := R.2.1.1.1
  refine Ev.tuSW (d := 60) (u := mL_law) rfl (am_dt kL_law8 19 rfl) ?_
  cases e : mayT (rvOf A.2.2.1) p mi with
  | true =>
    refine Ev.tz ?_
    refine Ev.aload_n 3 (am_dt kL_turn 0 rfl) rfl rfl ?_
    refine Ev.iconst (v := 0) (am_dt kL_turn 1 rfl) (by decide) ?_
    refine Ev.aload_n 0 (am_dt kL_turn 2 rfl) rfl rfl ?_
    refine Ev.iload_n 1 (am_dt kL_turn 3 rfl) rfl rfl ?_
    refine Ev.iload_n 2 (am_dt kL_turn 4 rfl) rfl rfl ?_
    refine Ev.callV (ci := 9) (d := 59) (v := mX9_turn) (As := [.int p, .int mi]) (st := [.int 0, .ref (x + 107)]) okX9_turn wt_6 wt_7 wt_5 (am_dt kL_turn 5 rfl) (by decide) rfl rfl (Nat.le_of_ble_eq_true rfl) (Nat.le_of_ble_eq_true rfl) k9 ?_
    refine c_turnX (d := 53) R e (fun h1 F1 R1 => ?_)
    show Ev w _ _ _ 8 _ [.int (gain (rvOf A.2.2.1) p.toNatClampNeg mi.toNatClampNeg), .int 0, .ref (x + 107)] _ _
    generalize gain (rvOf A.2.2.1) p.toNatClampNeg mi.toNatClampNeg = G at k ⊢
    have so := F1.1 (x + 107) (by omega)
    have o1 : hK h1 (x + 107) = 13 := so.1.trans ko
    have o2 : hN h1 (x + 107) = 1 := so.2.1.trans no
    refine Ev.i2l (am_dt kL_turn 6 rfl) ?_
    refine Ev.last' (am_dt kL_turn 7 rfl) o1 (by rw [o2]; show vp_in (nI 0) 1; exact vp_in_nI (by decide) (by decide)) (fun h2 e2 => ?_)
    refine Ev.goto (tgt := 17) (am_dt kL_turn 8 rfl) (by decide) ?_
    refine Ev.iconst (v := 0) (am_dt kL_turn 12 rfl) (by decide) ?_
    refine Ev.iret .int (am_dt kL_turn 13 rfl) rfl rfl ?_
    have s2 : ∀ a, a ≠ x + 107 → same h1 h2 a := fun a ha => by rw [e2]; exact sJ_same _ _ _ _ ha
    have z2 : hZ h2 = hZ h1 := by rw [e2]; rfl
    have y2 : hS h2 = hS h1 := by rw [e2]; rfl
    refine k h2 0 (Or.inl ⟨rfl, e, ?_⟩) (fun a ha1 ha2 => ?_) ?_ ?_ (R1.sm (fun a y1 y2 => s2 a (by omega)) (fun a y1 y2 => s2 a (by omega)) (by omega)) ?_ ?_ ?_
    · rw [e2]
      show va_up (hJ h1) (x + 107) (va_up (hJ h1 (x + 107)) 0 G.toInt64) (x + 107) 0 = G.toInt64
      unfold va_up
      rw [if_pos rfl, if_pos rfl]
    · have q1 := F1.1 a (by omega)
      have q2 := s2 a (by omega)
      exact ⟨q2.1.trans q1.1, q2.2.1.trans q1.2.1, q2.2.2.1.trans q1.2.2.1, q2.2.2.2.1.trans q1.2.2.2.1, q2.2.2.2.2.trans q1.2.2.2.2⟩
    · rw [e2]; exact o1
    · rw [e2]; exact o2
    · have := F1.2.1; omega
    · have := F1.2.1; omega
    · have := F1.2.2; omega
  | false =>
    refine Ev.aload_n 3 (am_dt kL_turn 0 rfl) rfl rfl ?_
    refine Ev.iconst (v := 0) (am_dt kL_turn 1 rfl) (by decide) ?_
    refine Ev.aload_n 0 (am_dt kL_turn 2 rfl) rfl rfl ?_
    refine Ev.iload_n 1 (am_dt kL_turn 3 rfl) rfl rfl ?_
    refine Ev.iload_n 2 (am_dt kL_turn 4 rfl) rfl rfl ?_
    refine Ev.tuCall (d := 59) hw k9 (c_turnT (d := 53) hw R e (fun h1 F1 R1 => ?_))
    have zz := F1.2.1
    have ss := F1.2.2
    have so := F1.1 (x + 107) (by omega)
    have s2 : ∀ a, a ≠ hZ h1 → same h1 (nO h1 16 6) a := fun a ha => nO_same h1 16 6 ha
    have e1 : hZ (nO h1 16 6) = hZ h1 + 1 := rfl
    have e2 : hS (nO h1 16 6) = hS h1 + 6 := rfl
    have s7 := s2 (x + 107) (by omega)
    refine k (nO h1 16 6) 1 (Or.inr ⟨rfl, e⟩) (fun a ha1 ha2 => ?_) (s7.1.trans (so.1.trans ko)) (s7.2.1.trans (so.2.1.trans no)) (R1.sm (fun a y1 y2 => s2 a (by omega)) (fun a y1 y2 => s2 a (by omega)) (by omega)) (by omega) (by omega) (by omega)
    have q1 := F1.1 a (by omega)
    have q2 := s2 a (by omega)
    exact ⟨q2.1.trans q1.1, q2.2.1.trans q1.2.1, q2.2.2.1.trans q1.2.2.1, q2.2.2.2.1.trans q1.2.2.2.1, q2.2.2.2.2.trans q1.2.2.2.2⟩
end TURNC
