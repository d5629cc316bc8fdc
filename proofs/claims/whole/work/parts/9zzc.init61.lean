/-! The class's constructor: the loop over the marks (laid by gen3.py). -/
set_option maxRecDepth 20000 in
set_option maxHeartbeats 2000000 in
theorem bX9_init_61b {w : am_W} {d : Nat} {h : am_H} {Q : Option Value → am_H → Prop} {a0 : Nat} {a1 : Nat} {x2 : Int32}  (k : (hK h a0 = 9) ∧ ((hR h a0 3 ≠ 0) ∧ ((hK h (hR h a0 3) = 15) ∧ (((nI (hN h (hR h a0 3))) ≤ x2 → (∀ h4 : am_H, h4 = nO h 3 18 → (EvM w mX3_init d [.ref (hZ h), .ref a1, .int 16] h4 (fun r6 h5 => r6 = none ∧ ((hK h5 a0 = 9) ∧ ((hZ h ≠ 0) ∧ (∀ h9 : am_H, h9 = sR h5 a0 4 (hZ h) → (∀ h10 : am_H, h10 = nO h9 3 18 → (EvM w mX3_init d [.ref (hZ h9), .ref a1, .int 300] h10 (fun r12 h11 => r12 = none ∧ ((hK h11 a0 = 9) ∧ ((hZ h9 ≠ 0) ∧ (∀ h15 : am_H, h15 = sR h11 a0 5 (hZ h9) → (∀ h16 : am_H, h16 = nO h15 1 7 → (EvM w mX1_init d [.ref (hZ h15)] h16 (fun r18 h17 => r18 = none ∧ ((hK h17 a0 = 9) ∧ ((hZ h15 ≠ 0) ∧ (∀ h21 : am_H, h21 = sR h17 a0 6 (hZ h15) → (∀ h22 : am_H, h22 = nO h21 4 10 → (EvM w mX4_init d [.ref (hZ h21)] h22 (fun r24 h23 => r24 = none ∧ ((hK h23 a0 = 9) ∧ ((hZ h21 ≠ 0) ∧ (∀ h27 : am_H, h27 = sR h23 a0 7 (hZ h21) → (Q none h27)))))))))))))))))))))))))) ∧ (¬ (nI (hN h (hR h a0 3))) ≤ x2 → (∀ h28 : am_H, h28 = nO h 7 5 → (EvM w mX7_init d [.ref (hZ h), .ref a1] h28 (fun r30 h29 => r30 = none ∧ ((hK h29 (hR h a0 3) = 15) ∧ ((vp_in x2 (hN h29 (hR h a0 3))) ∧ ((hK h29 (hZ h) = 7) ∧ (∀ h34 : am_H, h34 = sR h29 (hR h a0 3) (Int32.toNatClampNeg x2) (hZ h) → (Ev w (am_Z w) mX9_init (d + 1) 61 [(0, .ref a0), (1, .ref a1), (2, .int (x2 + 1))] [] h34 Q))))))))))))) : Ev w (am_Z w) mX9_init (d + 1) 61 [(0, .ref a0), (1, .ref a1), (2, .int x2)] [] h Q := by
  refine Ev.iload_n 2 (am_dt kX9_init 31 rfl) rfl rfl ?_
  refine Ev.aload_n 0 (am_dt kX9_init 32 rfl) rfl rfl ?_
  obtain ⟨f1, k⟩ := k
  obtain ⟨f2, k⟩ := k
  refine Ev.getR (ci := 9) (k := 3) (am_dt kX9_init 33 rfl) (by decide) (by decide) rfl wd_375 f1 f2 ?_
  obtain ⟨f3, k⟩ := k
  refine Ev.alen 15 (am_dt kX9_init 34 rfl) (by decide) (by decide) f3 ?_
  refine Ev.icmp_ge (tgt := 90) (am_dt kX9_init 35 rfl) (by decide) (fun c => ?_) (fun c => ?_)
  · have k := k.1 c
    refine Ev.aload_n 0 (am_dt kX9_init 46 rfl) rfl rfl ?_
    refine Ev.newO' (ci := 3) (am_dt kX9_init 47 rfl) (by decide) wd_404 wd_405 wd_406 (fun h4 eh4 => ?_)
    have k := k h4 eh4
    refine Ev.dup (am_dt kX9_init 48 rfl) rfl ?_
    refine Ev.aload_n 1 (am_dt kX9_init 49 rfl) rfl rfl ?_
    refine Ev.bipush (v := 16) (am_dt kX9_init 50 rfl) (by decide) ?_
    refine Ev.callI (v := mX3_init) (As := [.ref a1, .int 16]) (st := [.ref (hZ h), .ref a0]) okX3_init wd_389 rfl rfl wd_388 (am_dt kX9_init 51 rfl) rfl rfl (Nat.le_of_ble_eq_true rfl) (Nat.le_of_ble_eq_true rfl) ?_
    refine EvM.mono k (fun r6 h5 k => ?_)
    obtain ⟨rfl, k⟩ := k
    show Ev w _ _ _ 101 _ [.ref (hZ h), .ref a0] _ _
    obtain ⟨f7, k⟩ := k
    obtain ⟨f8, k⟩ := k
    refine Ev.putRF' (ci := 9) (k := 4) (am_dt kX9_init 52 rfl) (by decide) (by decide) wd_390 rfl rfl rfl rfl rfl rfl f8 f7 (fun h9 eh9 => ?_)
    have k := k h9 eh9
    have f7 := kR eh9 f7
    refine Ev.aload_n 0 (am_dt kX9_init 53 rfl) rfl rfl ?_
    refine Ev.newO' (ci := 3) (am_dt kX9_init 54 rfl) (by decide) wd_404 wd_405 wd_406 (fun h10 eh10 => ?_)
    have k := k h10 eh10
    refine Ev.dup (am_dt kX9_init 55 rfl) rfl ?_
    refine Ev.aload_n 1 (am_dt kX9_init 56 rfl) rfl rfl ?_
    refine Ev.sipush (v := 300) (am_dt kX9_init 57 rfl) (by decide) ?_
    refine Ev.callI (v := mX3_init) (As := [.ref a1, .int 300]) (st := [.ref (hZ h9), .ref a0]) okX3_init wd_389 rfl rfl wd_388 (am_dt kX9_init 58 rfl) rfl rfl (Nat.le_of_ble_eq_true rfl) (Nat.le_of_ble_eq_true rfl) ?_
    refine EvM.mono k (fun r12 h11 k => ?_)
    obtain ⟨rfl, k⟩ := k
    show Ev w _ _ _ 116 _ [.ref (hZ h9), .ref a0] _ _
    obtain ⟨f13, k⟩ := k
    obtain ⟨f14, k⟩ := k
    refine Ev.putRF' (ci := 9) (k := 5) (am_dt kX9_init 59 rfl) (by decide) (by decide) wd_391 rfl rfl rfl rfl rfl rfl f14 f13 (fun h15 eh15 => ?_)
    have k := k h15 eh15
    have f13 := kR eh15 f13
    refine Ev.aload_n 0 (am_dt kX9_init 60 rfl) rfl rfl ?_
    refine Ev.newO' (ci := 1) (am_dt kX9_init 61 rfl) (by decide) wd_401 wd_402 wd_403 (fun h16 eh16 => ?_)
    have k := k h16 eh16
    refine Ev.dup (am_dt kX9_init 62 rfl) rfl ?_
    refine Ev.callIN (v := mX1_init) (As := []) (st := [.ref (hZ h15), .ref a0]) okX1_init wd_393 rfl rfl wd_392 (am_dt kX9_init 63 rfl) rfl rfl (Nat.le_of_ble_eq_true rfl) (Nat.le_of_ble_eq_true rfl) ?_
    refine EvM.mono k (fun r18 h17 k => ?_)
    obtain ⟨rfl, k⟩ := k
    show Ev w _ _ _ 127 _ [.ref (hZ h15), .ref a0] _ _
    obtain ⟨f19, k⟩ := k
    obtain ⟨f20, k⟩ := k
    refine Ev.putRF' (ci := 9) (k := 6) (am_dt kX9_init 64 rfl) (by decide) (by decide) wd_394 rfl rfl rfl rfl rfl rfl f20 f19 (fun h21 eh21 => ?_)
    have k := k h21 eh21
    have f19 := kR eh21 f19
    refine Ev.aload_n 0 (am_dt kX9_init 65 rfl) rfl rfl ?_
    refine Ev.newO' (ci := 4) (am_dt kX9_init 66 rfl) (by decide) wd_398 wd_399 wd_400 (fun h22 eh22 => ?_)
    have k := k h22 eh22
    refine Ev.dup (am_dt kX9_init 67 rfl) rfl ?_
    refine Ev.callIN (v := mX4_init) (As := []) (st := [.ref (hZ h21), .ref a0]) okX4_init wd_396 rfl rfl wd_395 (am_dt kX9_init 68 rfl) rfl rfl (Nat.le_of_ble_eq_true rfl) (Nat.le_of_ble_eq_true rfl) ?_
    refine EvM.mono k (fun r24 h23 k => ?_)
    obtain ⟨rfl, k⟩ := k
    show Ev w _ _ _ 138 _ [.ref (hZ h21), .ref a0] _ _
    obtain ⟨f25, k⟩ := k
    obtain ⟨f26, k⟩ := k
    refine Ev.putRF' (ci := 9) (k := 7) (am_dt kX9_init 69 rfl) (by decide) (by decide) wd_397 rfl rfl rfl rfl rfl rfl f26 f25 (fun h27 eh27 => ?_)
    have k := k h27 eh27
    have f25 := kR eh27 f25
    exact Ev.vret (am_dt kX9_init 70 rfl) rfl k
  · have k := k.2 c
    refine Ev.aload_n 0 (am_dt kX9_init 36 rfl) rfl rfl ?_
    refine Ev.getR (ci := 9) (k := 3) (am_dt kX9_init 37 rfl) (by decide) (by decide) rfl wd_375 f1 f2 ?_
    refine Ev.iload_n 2 (am_dt kX9_init 38 rfl) rfl rfl ?_
    refine Ev.newO' (ci := 7) (am_dt kX9_init 39 rfl) (by decide) wd_376 wd_377 wd_378 (fun h28 eh28 => ?_)
    have k := k h28 eh28
    refine Ev.dup (am_dt kX9_init 40 rfl) rfl ?_
    refine Ev.aload_n 1 (am_dt kX9_init 41 rfl) rfl rfl ?_
    refine Ev.callI (v := mX7_init) (As := [.ref a1]) (st := [.ref (hZ h), .int x2, .ref (hR h a0 3)]) okX7_init wd_373 rfl rfl wd_372 (am_dt kX9_init 42 rfl) rfl rfl (Nat.le_of_ble_eq_true rfl) (Nat.le_of_ble_eq_true rfl) ?_
    refine EvM.mono k (fun r30 h29 k => ?_)
    obtain ⟨rfl, k⟩ := k
    show Ev w _ _ _ 83 _ [.ref (hZ h), .int x2, .ref (hR h a0 3)] _ _
    obtain ⟨f31, k⟩ := k
    obtain ⟨f32, k⟩ := k
    obtain ⟨f33, k⟩ := k
    refine Ev.aast' (am_dt kX9_init 43 rfl) f31 f32 f33 (fun h34 eh34 => ?_)
    have k := k h34 eh34
    have f31 := kR eh34 f31
    have f33 := kR eh34 f33
    refine Ev.iinc (v := x2 + 1) (lv' := [(2, .int (x2 + 1)), (0, .ref a0), (1, .ref a1)]) 2 (am_dt kX9_init 44 rfl) rfl rfl (by decide) rfl ?_
    refine Ev.goto (tgt := 61) (am_dt kX9_init 45 rfl) (by decide) ?_
    exact Ev.sub [1, 2, 0] rfl k
