set_option maxRecDepth 20000 in
set_option maxHeartbeats 2000000 in
theorem bX9_init_0 {w : am_W} {d : Nat} {h : am_H} {Q : Option Value → am_H → Prop} {a0 : Nat}  (k : ∀ h1 : am_H, h1 = nO h 6 15 → (EvM w mX6_init d [.ref (hZ h)] h1 (fun r3 h2 => r3 = none ∧ (∀ h4 : am_H, h4 = nO h2 8 5 → (EvM w mX8_init d [.ref (hZ h2)] h4 (fun r6 h5 => r6 = none ∧ ((hK h5 a0 = 9) ∧ ((hZ h2 ≠ 0) ∧ (∀ h9 : am_H, h9 = sR h5 a0 0 (hZ h2) → (∀ h10 : am_H, h10 = nO h9 5 8 → ((hK h10 a0 = 9) ∧ ((hR h10 a0 0 ≠ 0) ∧ (EvM w mX5_init d [.ref (hZ h9), .ref (hR h10 a0 0), .ref (hZ h)] h10 (fun r14 h13 => r14 = none ∧ ((hK h13 a0 = 9) ∧ ((hZ h9 ≠ 0) ∧ (∀ h17 : am_H, h17 = sR h13 a0 1 (hZ h9) → (∀ h18 : am_H, h18 = nO h17 7 5 → (EvM w mX7_init d [.ref (hZ h17), .ref (hZ h)] h18 (fun r20 h19 => r20 = none ∧ ((hK h19 a0 = 9) ∧ ((hZ h17 ≠ 0) ∧ (∀ h23 : am_H, h23 = sR h19 a0 2 (hZ h17) → (((∀ s, w.2.2.2.2 s → va_AO "EvenFerry$State" s)) ∧ (∀ h24 : am_H, h24 = nA h23 15 4 → ((hK h24 a0 = 9) ∧ ((hZ h23 ≠ 0) ∧ (∀ h27 : am_H, h27 = sR h24 a0 3 (hZ h23) → (Ev w (am_Z w) mX9_init (d + 1) 61 [(0, .ref a0), (1, .ref (hZ h)), (2, .int 0)] [] h27 Q))))))))))))))))))))))))))))) : EvM w mX9_init (d + 1) [.ref a0] h Q := by
  show Ev w (am_Z w) mX9_init (d + 1) 0 [(0, .ref a0)] [] h Q
  refine Ev.aload_n 0 (am_dt kX9_init 0 rfl) rfl rfl ?_
  refine Ev.objI wd_363 wd_2 wd_3 (am_dt kX9_init 1 rfl) (Nat.le_of_ble_eq_true rfl) ?_
  refine Ev.newO' (ci := 6) (am_dt kX9_init 2 rfl) (by decide) wd_385 wd_386 wd_387 (fun h1 eh1 => ?_)
  have k := k h1 eh1
  refine Ev.dup (am_dt kX9_init 3 rfl) rfl ?_
  refine Ev.callIN (v := mX6_init) (As := []) (st := [.ref (hZ h)]) okX6_init wd_365 rfl rfl wd_364 (am_dt kX9_init 4 rfl) rfl rfl (Nat.le_of_ble_eq_true rfl) (Nat.le_of_ble_eq_true rfl) ?_
  refine EvM.mono k (fun r3 h2 k => ?_)
  obtain ⟨rfl, k⟩ := k
  show Ev w _ _ _ 11 _ [.ref (hZ h)] _ _
  refine Ev.astore_n (lv' := [(1, .ref (hZ h)), (0, .ref a0)]) (am_dt kX9_init 5 rfl) rfl (by decide) rfl ?_
  refine Ev.aload_n 1 (am_dt kX9_init 6 rfl) rfl rfl ?_
  refine Ev.newO' (ci := 8) (am_dt kX9_init 7 rfl) (by decide) wd_382 wd_383 wd_384 (fun h4 eh4 => ?_)
  have k := k h4 eh4
  refine Ev.dup (am_dt kX9_init 8 rfl) rfl ?_
  refine Ev.callIN (v := mX8_init) (As := []) (st := [.ref (hZ h2), .ref a0]) okX8_init wd_367 rfl rfl wd_366 (am_dt kX9_init 9 rfl) rfl rfl (Nat.le_of_ble_eq_true rfl) (Nat.le_of_ble_eq_true rfl) ?_
  refine EvM.mono k (fun r6 h5 k => ?_)
  obtain ⟨rfl, k⟩ := k
  show Ev w _ _ _ 20 _ [.ref (hZ h2), .ref a0] _ _
  obtain ⟨f7, k⟩ := k
  obtain ⟨f8, k⟩ := k
  refine Ev.putRF' (ci := 9) (k := 0) (am_dt kX9_init 10 rfl) (by decide) (by decide) wd_368 rfl rfl rfl rfl rfl rfl f8 f7 (fun h9 eh9 => ?_)
  have k := k h9 eh9
  have f7 := kR eh9 f7
  refine Ev.aload_n 1 (am_dt kX9_init 11 rfl) rfl rfl ?_
  refine Ev.newO' (ci := 5) (am_dt kX9_init 12 rfl) (by decide) wd_379 wd_380 wd_381 (fun h10 eh10 => ?_)
  have k := k h10 eh10
  refine Ev.dup (am_dt kX9_init 13 rfl) rfl ?_
  refine Ev.aload_n 1 (am_dt kX9_init 14 rfl) rfl rfl ?_
  obtain ⟨f11, k⟩ := k
  obtain ⟨f12, k⟩ := k
  refine Ev.getR (ci := 9) (k := 0) (am_dt kX9_init 15 rfl) (by decide) (by decide) rfl wd_368 f11 f12 ?_
  refine Ev.aload_n 0 (am_dt kX9_init 16 rfl) rfl rfl ?_
  refine Ev.callI (v := mX5_init) (As := [.ref (hR h10 a0 0), .ref (hZ h)]) (st := [.ref (hZ h9), .ref a0]) okX5_init wd_370 rfl rfl wd_369 (am_dt kX9_init 17 rfl) rfl rfl (Nat.le_of_ble_eq_true rfl) (Nat.le_of_ble_eq_true rfl) ?_
  refine EvM.mono k (fun r14 h13 k => ?_)
  obtain ⟨rfl, k⟩ := k
  show Ev w _ _ _ 36 _ [.ref (hZ h9), .ref a0] _ _
  obtain ⟨f15, k⟩ := k
  obtain ⟨f16, k⟩ := k
  refine Ev.putRF' (ci := 9) (k := 1) (am_dt kX9_init 18 rfl) (by decide) (by decide) wd_371 rfl rfl rfl rfl rfl rfl f16 f15 (fun h17 eh17 => ?_)
  have k := k h17 eh17
  have f15 := kR eh17 f15
  refine Ev.aload_n 1 (am_dt kX9_init 19 rfl) rfl rfl ?_
  refine Ev.newO' (ci := 7) (am_dt kX9_init 20 rfl) (by decide) wd_376 wd_377 wd_378 (fun h18 eh18 => ?_)
  have k := k h18 eh18
  refine Ev.dup (am_dt kX9_init 21 rfl) rfl ?_
  refine Ev.aload_n 0 (am_dt kX9_init 22 rfl) rfl rfl ?_
  refine Ev.callI (v := mX7_init) (As := [.ref (hZ h)]) (st := [.ref (hZ h17), .ref a0]) okX7_init wd_373 rfl rfl wd_372 (am_dt kX9_init 23 rfl) rfl rfl (Nat.le_of_ble_eq_true rfl) (Nat.le_of_ble_eq_true rfl) ?_
  refine EvM.mono k (fun r20 h19 k => ?_)
  obtain ⟨rfl, k⟩ := k
  show Ev w _ _ _ 48 _ [.ref (hZ h17), .ref a0] _ _
  obtain ⟨f21, k⟩ := k
  obtain ⟨f22, k⟩ := k
  refine Ev.putRF' (ci := 9) (k := 2) (am_dt kX9_init 24 rfl) (by decide) (by decide) wd_374 rfl rfl rfl rfl rfl rfl f22 f21 (fun h23 eh23 => ?_)
  have k := k h23 eh23
  have f21 := kR eh23 f21
  refine Ev.aload_n 1 (am_dt kX9_init 25 rfl) rfl rfl ?_
  refine Ev.iconst (v := 4) (am_dt kX9_init 26 rfl) (by decide) ?_
  obtain ⟨f28, k⟩ := k
  refine Ev.newS' (n := 4) (N := 4) (am_dt kX9_init 27 rfl) wd_376 f28 (by decide) (by decide) (by decide) (fun h24 eh24 => ?_)
  have k := k h24 eh24
  obtain ⟨f25, k⟩ := k
  obtain ⟨f26, k⟩ := k
  refine Ev.putRF' (ci := 9) (k := 3) (am_dt kX9_init 28 rfl) (by decide) (by decide) wd_375 rfl rfl rfl rfl rfl rfl f26 f25 (fun h27 eh27 => ?_)
  have k := k h27 eh27
  have f25 := kR eh27 f25
  refine Ev.iconst (v := 0) (am_dt kX9_init 29 rfl) (by decide) ?_
  refine Ev.istore_n (lv' := [(2, .int 0), (1, .ref (hZ h)), (0, .ref a0)]) (am_dt kX9_init 30 rfl) rfl (by decide) rfl ?_
  exact Ev.sub [2, 1, 0] rfl k
set_option maxRecDepth 20000 in
set_option maxHeartbeats 2000000 in
theorem bX9_init_61 {w : am_W} {d : Nat} {h : am_H} {Q : Option Value → am_H → Prop} {a0 : Nat} {a1 : Nat} {x2 : Int32}  (k : (hK h a0 = 9) ∧ ((hR h a0 3 ≠ 0) ∧ ((hK h (hR h a0 3) = 12) ∧ (((nI (hN h (hR h a0 3))) ≤ x2 → (∀ h4 : am_H, h4 = nO h 3 18 → (EvM w mX3_init d [.ref (hZ h), .ref a1, .int 16] h4 (fun r6 h5 => r6 = none ∧ ((hK h5 a0 = 9) ∧ ((hZ h ≠ 0) ∧ (∀ h9 : am_H, h9 = sR h5 a0 4 (hZ h) → (∀ h10 : am_H, h10 = nO h9 3 18 → (EvM w mX3_init d [.ref (hZ h9), .ref a1, .int 300] h10 (fun r12 h11 => r12 = none ∧ ((hK h11 a0 = 9) ∧ ((hZ h9 ≠ 0) ∧ (∀ h15 : am_H, h15 = sR h11 a0 5 (hZ h9) → (∀ h16 : am_H, h16 = nO h15 1 7 → (EvM w mX1_init d [.ref (hZ h15)] h16 (fun r18 h17 => r18 = none ∧ ((hK h17 a0 = 9) ∧ ((hZ h15 ≠ 0) ∧ (∀ h21 : am_H, h21 = sR h17 a0 6 (hZ h15) → (∀ h22 : am_H, h22 = nO h21 4 10 → (EvM w mX4_init d [.ref (hZ h21)] h22 (fun r24 h23 => r24 = none ∧ ((hK h23 a0 = 9) ∧ ((hZ h21 ≠ 0) ∧ (∀ h27 : am_H, h27 = sR h23 a0 7 (hZ h21) → (Q none h27)))))))))))))))))))))))))) ∧ (¬ (nI (hN h (hR h a0 3))) ≤ x2 → (∀ h28 : am_H, h28 = nO h 7 5 → (EvM w mX7_init d [.ref (hZ h), .ref a1] h28 (fun r30 h29 => r30 = none ∧ ((hK h29 (hR h a0 3) = 15) ∧ ((vp_in x2 (hN h29 (hR h a0 3))) ∧ ((hK h29 (hZ h) = 7) ∧ (∀ h34 : am_H, h34 = sR h29 (hR h a0 3) (Int32.toNatClampNeg x2) (hZ h) → (Ev w (am_Z w) mX9_init (d + 1) 61 [(0, .ref a0), (1, .ref a1), (2, .int (x2 + 1))] [] h34 Q))))))))))))) : Ev w (am_Z w) mX9_init (d + 1) 61 [(0, .ref a0), (1, .ref a1), (2, .int x2)] [] h Q := by
  refine Ev.iload_n 2 (am_dt kX9_init 31 rfl) rfl rfl ?_
  refine Ev.aload_n 0 (am_dt kX9_init 32 rfl) rfl rfl ?_
  obtain ⟨f1, k⟩ := k
  obtain ⟨f2, k⟩ := k
  refine Ev.getR (ci := 9) (k := 3) (am_dt kX9_init 33 rfl) (by decide) (by decide) rfl wd_375 f1 f2 ?_
  obtain ⟨f3, k⟩ := k
  refine Ev.alen 12 (am_dt kX9_init 34 rfl) (by decide) (by decide) f3 ?_
  refine Ev.icmp_ge (tgt := 90) (am_dt kX9_init 35 rfl) (by decide) (fun c => ?_) (fun c => ?_)
  · have k := k.1 c
    refine Ev.aload_n 0 (am_dt kX9_init 46 rfl) rfl rfl ?_
    refine Ev.newO' (ci := 3) (am_dt kX9_init 47 rfl) (by decide) wd_404 wd_405 wd_406 (fun h4 eh4 => ?_)
    have k := k h4 eh4
    refine Ev.dup (am_dt kX9_init 48 rfl) rfl ?_
    refine Ev.aload_n 1 (am_dt kX9_init 49 rfl) rfl rfl ?_
    refine Ev.bipush (v := 16) (am_dt kX9_init 50 rfl) (by decide) ?_
    refine Ev.callI (v := mX3_init) (As := [.ref a1, .int 16]) (st := [.ref (hZ h), .ref a0]) okX3_init wd_389 rfl rfl wd_388 (am_dt kX9_init 51 rfl) rfl rfl (Nat.le_of_ble_eq_true rfl) (Nat.le_of_ble_eq_true rfl) ?_
    refine EvM.mono k (fun r6 h5 k => ?_)
    obtain ⟨rfl, k⟩ := k
    show Ev w _ _ _ 101 _ [.ref (hZ h), .ref a0] _ _
    obtain ⟨f7, k⟩ := k
    obtain ⟨f8, k⟩ := k
    refine Ev.putRF' (ci := 9) (k := 4) (am_dt kX9_init 52 rfl) (by decide) (by decide) wd_390 rfl rfl rfl rfl rfl rfl f8 f7 (fun h9 eh9 => ?_)
    have k := k h9 eh9
    have f7 := kR eh9 f7
    refine Ev.aload_n 0 (am_dt kX9_init 53 rfl) rfl rfl ?_
    refine Ev.newO' (ci := 3) (am_dt kX9_init 54 rfl) (by decide) wd_404 wd_405 wd_406 (fun h10 eh10 => ?_)
    have k := k h10 eh10
    refine Ev.dup (am_dt kX9_init 55 rfl) rfl ?_
    refine Ev.aload_n 1 (am_dt kX9_init 56 rfl) rfl rfl ?_
    refine Ev.sipush (v := 300) (am_dt kX9_init 57 rfl) (by decide) ?_
    refine Ev.callI (v := mX3_init) (As := [.ref a1, .int 300]) (st := [.ref (hZ h9), .ref a0]) okX3_init wd_389 rfl rfl wd_388 (am_dt kX9_init 58 rfl) rfl rfl (Nat.le_of_ble_eq_true rfl) (Nat.le_of_ble_eq_true rfl) ?_
    refine EvM.mono k (fun r12 h11 k => ?_)
    obtain ⟨rfl, k⟩ := k
    show Ev w _ _ _ 116 _ [.ref (hZ h9), .ref a0] _ _
    obtain ⟨f13, k⟩ := k
    obtain ⟨f14, k⟩ := k
    refine Ev.putRF' (ci := 9) (k := 5) (am_dt kX9_init 59 rfl) (by decide) (by decide) wd_391 rfl rfl rfl rfl rfl rfl f14 f13 (fun h15 eh15 => ?_)
    have k := k h15 eh15
    have f13 := kR eh15 f13
    refine Ev.aload_n 0 (am_dt kX9_init 60 rfl) rfl rfl ?_
    refine Ev.newO' (ci := 1) (am_dt kX9_init 61 rfl) (by decide) wd_401 wd_402 wd_403 (fun h16 eh16 => ?_)
    have k := k h16 eh16
    refine Ev.dup (am_dt kX9_init 62 rfl) rfl ?_
    refine Ev.callIN (v := mX1_init) (As := []) (st := [.ref (hZ h15), .ref a0]) okX1_init wd_393 rfl rfl wd_392 (am_dt kX9_init 63 rfl) rfl rfl (Nat.le_of_ble_eq_true rfl) (Nat.le_of_ble_eq_true rfl) ?_
    refine EvM.mono k (fun r18 h17 k => ?_)
    obtain ⟨rfl, k⟩ := k
    show Ev w _ _ _ 127 _ [.ref (hZ h15), .ref a0] _ _
    obtain ⟨f19, k⟩ := k
    obtain ⟨f20, k⟩ := k
    refine Ev.putRF' (ci := 9) (k := 6) (am_dt kX9_init 64 rfl) (by decide) (by decide) wd_394 rfl rfl rfl rfl rfl rfl f20 f19 (fun h21 eh21 => ?_)
    have k := k h21 eh21
    have f19 := kR eh21 f19
    refine Ev.aload_n 0 (am_dt kX9_init 65 rfl) rfl rfl ?_
    refine Ev.newO' (ci := 4) (am_dt kX9_init 66 rfl) (by decide) wd_398 wd_399 wd_400 (fun h22 eh22 => ?_)
    have k := k h22 eh22
    refine Ev.dup (am_dt kX9_init 67 rfl) rfl ?_
    refine Ev.callIN (v := mX4_init) (As := []) (st := [.ref (hZ h21), .ref a0]) okX4_init wd_396 rfl rfl wd_395 (am_dt kX9_init 68 rfl) rfl rfl (Nat.le_of_ble_eq_true rfl) (Nat.le_of_ble_eq_true rfl) ?_
    refine EvM.mono k (fun r24 h23 k => ?_)
    obtain ⟨rfl, k⟩ := k
    show Ev w _ _ _ 138 _ [.ref (hZ h21), .ref a0] _ _
    obtain ⟨f25, k⟩ := k
    obtain ⟨f26, k⟩ := k
    refine Ev.putRF' (ci := 9) (k := 7) (am_dt kX9_init 69 rfl) (by decide) (by decide) wd_397 rfl rfl rfl rfl rfl rfl f26 f25 (fun h27 eh27 => ?_)
    have k := k h27 eh27
    have f25 := kR eh27 f25
    exact Ev.vret (am_dt kX9_init 70 rfl) rfl k
  · have k := k.2 c
    refine Ev.aload_n 0 (am_dt kX9_init 36 rfl) rfl rfl ?_
    refine Ev.getR (ci := 9) (k := 3) (am_dt kX9_init 37 rfl) (by decide) (by decide) rfl wd_375 f1 f2 ?_
    refine Ev.iload_n 2 (am_dt kX9_init 38 rfl) rfl rfl ?_
    refine Ev.newO' (ci := 7) (am_dt kX9_init 39 rfl) (by decide) wd_376 wd_377 wd_378 (fun h28 eh28 => ?_)
    have k := k h28 eh28
    refine Ev.dup (am_dt kX9_init 40 rfl) rfl ?_
    refine Ev.aload_n 1 (am_dt kX9_init 41 rfl) rfl rfl ?_
    refine Ev.callI (v := mX7_init) (As := [.ref a1]) (st := [.ref (hZ h), .int x2, .ref (hR h a0 3)]) okX7_init wd_373 rfl rfl wd_372 (am_dt kX9_init 42 rfl) rfl rfl (Nat.le_of_ble_eq_true rfl) (Nat.le_of_ble_eq_true rfl) ?_
    refine EvM.mono k (fun r30 h29 k => ?_)
    obtain ⟨rfl, k⟩ := k
    show Ev w _ _ _ 83 _ [.ref (hZ h), .int x2, .ref (hR h a0 3)] _ _
    obtain ⟨f31, k⟩ := k
    obtain ⟨f32, k⟩ := k
    obtain ⟨f33, k⟩ := k
    refine Ev.aast' (am_dt kX9_init 43 rfl) f31 f32 f33 (fun h34 eh34 => ?_)
    have k := k h34 eh34
    have f31 := kR eh34 f31
    have f33 := kR eh34 f33
    refine Ev.iinc (v := x2 + 1) (lv' := [(2, .int (x2 + 1)), (0, .ref a0), (1, .ref a1)]) 2 (am_dt kX9_init 44 rfl) rfl rfl (by decide) rfl ?_
    refine Ev.goto (tgt := 61) (am_dt kX9_init 45 rfl) (by decide) ?_
    exact Ev.sub [1, 2, 0] rfl k
set_option maxRecDepth 20000 in
set_option maxHeartbeats 2000000 in
theorem bX9_feed_0 {w : am_W} {d : Nat} {h : am_H} {Q : Option Value → am_H → Prop} {a0 : Nat} {y1 : Int64} {y3 : Int64} {y5 : Int64}  (k : (am_L 9 a0 h) ∧ (EvM w mX8_append d [.ref (a0 + 13), .long y1] h (fun r3 h2 => r3 = none ∧ ((am_L 9 a0 h2) ∧ (EvM w mX8_append d [.ref (a0 + 13), .long y3] h2 (fun r6 h5 => r6 = none ∧ ((am_L 9 a0 h5) ∧ (EvM w mX8_append d [.ref (a0 + 13), .long y5] h5 (fun r9 h8 => r9 = none ∧ ((am_L 9 a0 h8) ∧ ((am_L 8 (a0 + 13) h8) ∧ (Q (some (.int (hI h8 (a0 + 13) 3))) h8)))))))))))) : EvM w mX9_feed (d + 1) [.ref a0, .long y1, .long y3, .long y5] h Q := by
  show Ev w (am_Z w) mX9_feed (d + 1) 0 [(0, .ref a0), (1, .long y1), (3, .long y3), (5, .long y5)] [] h Q
  refine Ev.aload_n 0 (am_dt kX9_feed 0 rfl) rfl rfl ?_
  obtain ⟨f1, k⟩ := k
  refine Ev.getRe (ci := 9) (k := 0) (r := a0 + 13) (am_dt kX9_feed 1 rfl) (by decide) (by decide) rfl wd_368 f1.1 (am_L.r f1 0 rfl) (by omega) ?_
  refine Ev.lload_n 1 (am_dt kX9_feed 2 rfl) rfl rfl ?_
  refine Ev.callV (ci := 8) (v := mX8_append) (As := [.long y1]) (st := []) okX8_append wd_407 wd_408 wd_409 (am_dt kX9_feed 3 rfl) (by decide) rfl rfl (Nat.le_of_ble_eq_true rfl) (Nat.le_of_ble_eq_true rfl) (am_L.s f1 0 rfl) ?_
  refine EvM.mono k (fun r3 h2 k => ?_)
  obtain ⟨rfl, k⟩ := k
  show Ev w _ _ _ 8 _ [] _ _
  refine Ev.aload_n 0 (am_dt kX9_feed 4 rfl) rfl rfl ?_
  obtain ⟨f4, k⟩ := k
  refine Ev.getRe (ci := 9) (k := 0) (r := a0 + 13) (am_dt kX9_feed 5 rfl) (by decide) (by decide) rfl wd_368 f4.1 (am_L.r f4 0 rfl) (by omega) ?_
  refine Ev.lload_n 2 (am_dt kX9_feed 6 rfl) rfl rfl ?_
  refine Ev.callV (ci := 8) (v := mX8_append) (As := [.long y3]) (st := []) okX8_append wd_407 wd_408 wd_409 (am_dt kX9_feed 7 rfl) (by decide) rfl rfl (Nat.le_of_ble_eq_true rfl) (Nat.le_of_ble_eq_true rfl) (am_L.s f4 0 rfl) ?_
  refine EvM.mono k (fun r6 h5 k => ?_)
  obtain ⟨rfl, k⟩ := k
  show Ev w _ _ _ 16 _ [] _ _
  refine Ev.aload_n 0 (am_dt kX9_feed 8 rfl) rfl rfl ?_
  obtain ⟨f7, k⟩ := k
  refine Ev.getRe (ci := 9) (k := 0) (r := a0 + 13) (am_dt kX9_feed 9 rfl) (by decide) (by decide) rfl wd_368 f7.1 (am_L.r f7 0 rfl) (by omega) ?_
  refine Ev.lload 3 (am_dt kX9_feed 10 rfl) rfl ?_
  refine Ev.callV (ci := 8) (v := mX8_append) (As := [.long y5]) (st := []) okX8_append wd_407 wd_408 wd_409 (am_dt kX9_feed 11 rfl) (by decide) rfl rfl (Nat.le_of_ble_eq_true rfl) (Nat.le_of_ble_eq_true rfl) (am_L.s f7 0 rfl) ?_
  refine EvM.mono k (fun r9 h8 k => ?_)
  obtain ⟨rfl, k⟩ := k
  show Ev w _ _ _ 25 _ [] _ _
  refine Ev.aload_n 0 (am_dt kX9_feed 12 rfl) rfl rfl ?_
  obtain ⟨f10, k⟩ := k
  refine Ev.getRe (ci := 9) (k := 0) (r := a0 + 13) (am_dt kX9_feed 13 rfl) (by decide) (by decide) rfl wd_368 f10.1 (am_L.r f10 0 rfl) (by omega) ?_
  obtain ⟨f11, k⟩ := k
  refine Ev.getI (ci := 8) (k := 3) (am_dt kX9_feed 14 rfl) (by decide) (by decide) rfl wd_410 f11.1 ?_
  exact Ev.iret .int (am_dt kX9_feed 15 rfl) rfl rfl k
set_option maxRecDepth 20000 in
set_option maxHeartbeats 2000000 in
theorem bX9_river_0 {w : am_W} {d : Nat} {h : am_H} {Q : Option Value → am_H → Prop} {a0 : Nat}  (k : (am_L 9 a0 h) ∧ (EvM w mX8_cut d [.ref (a0 + 13)] h (fun r3 h2 => r3 = none ∧ ((am_L 9 a0 h2) ∧ (∀ h5 : am_H, h5 = nO h2 6 15 → (EvM w mX6_init d [.ref (hZ h2)] h5 (fun r7 h6 => r7 = none ∧ ((am_L 5 (a0 + 17) h6) ∧ (EvM w mX5_read d [.ref (a0 + 17), .ref (hZ h2)] h6 (fun r10 h9 => ∃ v11 : Int32, r10 = some (.int v11) ∧ ((am_L 9 a0 h9) ∧ ((am_L 8 (a0 + 13) h9) ∧ (∀ h14 : am_H, h14 = sI h9 (a0 + 13) 3 0 → ((v11 = 0 → ((am_L 5 (a0 + 17) h14) ∧ ((hR h14 (a0 + 17) 3 ≠ 0) ∧ (EvM w mX7_start d [.ref (a0 + 20), .ref (hR h14 (a0 + 17) 3)] h14 (fun r18 h17 => r18 = none ∧ ((am_L 9 a0 h17) ∧ (EvM w mX9_forget d [.ref a0] h17 (fun r21 h20 => r21 = none ∧ (Q (some (.int v11)) h20))))))))) ∧ (¬ v11 = 0 → (Q (some (.int v11)) h14)))))))))))))))) : EvM w mX9_river (d + 1) [.ref a0] h Q := by
  show Ev w (am_Z w) mX9_river (d + 1) 0 [(0, .ref a0)] [] h Q
  refine Ev.aload_n 0 (am_dt kX9_river 0 rfl) rfl rfl ?_
  obtain ⟨f1, k⟩ := k
  refine Ev.getRe (ci := 9) (k := 0) (r := a0 + 13) (am_dt kX9_river 1 rfl) (by decide) (by decide) rfl wd_368 f1.1 (am_L.r f1 0 rfl) (by omega) ?_
  refine Ev.callV (ci := 8) (v := mX8_cut) (As := []) (st := []) okX8_cut wd_411 wd_412 wd_413 (am_dt kX9_river 2 rfl) (by decide) rfl rfl (Nat.le_of_ble_eq_true rfl) (Nat.le_of_ble_eq_true rfl) (am_L.s f1 0 rfl) ?_
  refine EvM.mono k (fun r3 h2 k => ?_)
  obtain ⟨rfl, k⟩ := k
  show Ev w _ _ _ 7 _ [] _ _
  refine Ev.aload_n 0 (am_dt kX9_river 3 rfl) rfl rfl ?_
  obtain ⟨f4, k⟩ := k
  refine Ev.getRe (ci := 9) (k := 1) (r := a0 + 17) (am_dt kX9_river 4 rfl) (by decide) (by decide) rfl wd_371 f4.1 (am_L.r f4 1 rfl) (by omega) ?_
  refine Ev.newO' (ci := 6) (am_dt kX9_river 5 rfl) (by decide) wd_385 wd_386 wd_387 (fun h5 eh5 => ?_)
  have k := k h5 eh5
  refine Ev.dup (am_dt kX9_river 6 rfl) rfl ?_
  refine Ev.callIN (v := mX6_init) (As := []) (st := [.ref (hZ h2), .ref (a0 + 17)]) okX6_init wd_365 rfl rfl wd_364 (am_dt kX9_river 7 rfl) rfl rfl (Nat.le_of_ble_eq_true rfl) (Nat.le_of_ble_eq_true rfl) ?_
  refine EvM.mono k (fun r7 h6 k => ?_)
  obtain ⟨rfl, k⟩ := k
  show Ev w _ _ _ 18 _ [.ref (hZ h2), .ref (a0 + 17)] _ _
  obtain ⟨f8, k⟩ := k
  refine Ev.callV (ci := 5) (v := mX5_read) (As := [.ref (hZ h2)]) (st := []) okX5_read wd_414 wd_415 wd_416 (am_dt kX9_river 8 rfl) (by decide) rfl rfl (Nat.le_of_ble_eq_true rfl) (Nat.le_of_ble_eq_true rfl) f8.1 ?_
  refine EvM.mono k (fun r10 h9 k => ?_)
  obtain ⟨v11, rfl, k⟩ := k
  show Ev w _ _ _ 21 _ [.int v11] _ _
  refine Ev.istore_n (lv' := [(1, .int v11), (0, .ref a0)]) (am_dt kX9_river 9 rfl) rfl (by decide) rfl ?_
  refine Ev.aload_n 1 (am_dt kX9_river 10 rfl) rfl rfl ?_
  obtain ⟨f12, k⟩ := k
  refine Ev.getRe (ci := 9) (k := 0) (r := a0 + 13) (am_dt kX9_river 11 rfl) (by decide) (by decide) rfl wd_368 f12.1 (am_L.r f12 0 rfl) (by omega) ?_
  refine Ev.iconst (v := 0) (am_dt kX9_river 12 rfl) (by decide) ?_
  obtain ⟨f13, k⟩ := k
  refine Ev.putI' (ci := 8) (k := 3) (am_dt kX9_river 13 rfl) (by decide) (by decide) wd_410 rfl rfl rfl rfl f13.1 (fun h14 eh14 => ?_)
  have k := k h14 eh14
  have f12 := am_LsI eh14 f12
  have f13 := am_LsI eh14 f13
  refine Ev.iload_n 0 (am_dt kX9_river 14 rfl) rfl rfl ?_
  refine Ev.if_ne (tgt := 52) (am_dt kX9_river 15 rfl) (by decide) (fun c => ?_) (fun c => ?_)
  · have k := k.2 c
    refine Ev.iload_n 0 (am_dt kX9_river 24 rfl) rfl rfl ?_
    exact Ev.iret .int (am_dt kX9_river 25 rfl) rfl rfl k
  · have k := k.1 c
    refine Ev.aload_n 1 (am_dt kX9_river 16 rfl) rfl rfl ?_
    refine Ev.getRe (ci := 9) (k := 2) (r := a0 + 20) (am_dt kX9_river 17 rfl) (by decide) (by decide) rfl wd_374 f12.1 (am_L.r f12 2 rfl) (by omega) ?_
    refine Ev.aload_n 1 (am_dt kX9_river 18 rfl) rfl rfl ?_
    refine Ev.getRe (ci := 9) (k := 1) (r := a0 + 17) (am_dt kX9_river 19 rfl) (by decide) (by decide) rfl wd_371 f12.1 (am_L.r f12 1 rfl) (by omega) ?_
    obtain ⟨f15, k⟩ := k
    obtain ⟨f16, k⟩ := k
    refine Ev.getR (ci := 5) (k := 3) (am_dt kX9_river 20 rfl) (by decide) (by decide) rfl wd_417 f15.1 f16 ?_
    refine Ev.callV (ci := 7) (v := mX7_start) (As := [.ref (hR h14 (a0 + 17) 3)]) (st := []) okX7_start wd_418 wd_419 wd_420 (am_dt kX9_river 21 rfl) (by decide) rfl rfl (Nat.le_of_ble_eq_true rfl) (Nat.le_of_ble_eq_true rfl) (am_L.s f12 2 rfl) ?_
    refine EvM.mono k (fun r18 h17 k => ?_)
    obtain ⟨rfl, k⟩ := k
    show Ev w _ _ _ 48 _ [] _ _
    refine Ev.aload_n 1 (am_dt kX9_river 22 rfl) rfl rfl ?_
    obtain ⟨f19, k⟩ := k
    refine Ev.callV (ci := 9) (v := mX9_forget) (As := []) (st := []) okX9_forget wd_421 wd_422 wd_423 (am_dt kX9_river 23 rfl) (by decide) rfl rfl (Nat.le_of_ble_eq_true rfl) (Nat.le_of_ble_eq_true rfl) f19.1 ?_
    refine EvM.mono k (fun r21 h20 k => ?_)
    obtain ⟨rfl, k⟩ := k
    show Ev w _ _ _ 52 _ [] _ _
    refine Ev.iload_n 0 (am_dt kX9_river 24 rfl) rfl rfl ?_
    exact Ev.iret .int (am_dt kX9_river 25 rfl) rfl rfl k
set_option maxRecDepth 20000 in
set_option maxHeartbeats 2000000 in
theorem bX9_person_0 {w : am_W} {d : Nat} {h : am_H} {Q : Option Value → am_H → Prop} {a0 : Nat} {x1 : Int32} {x2 : Int32}  (k : (am_L 9 a0 h) ∧ ((am_L 7 (a0 + 20) h) ∧ ((hR h (a0 + 20) 1 ≠ 0) ∧ (EvM w mX9_isPerson d [.ref a0, .int x1] h (fun r5 h4 => ∃ v6 : Int32, r5 = some (.int v6) ∧ ((v6 = 0 → (Q (some (.int ((-1)))) h4)) ∧ (¬ v6 = 0 → ((x2 = 0 → ((am_L 6 (hR h (a0 + 20) 1) h4) ∧ ((am_L 2 ((hR h (a0 + 20) 1) + 1) h4) ∧ (EvM w mX9_get d [.ref (((hR h (a0 + 20) 1) + 1) + 2), .int x1] h4 (fun r10 h9 => ∃ v11 : Int32, r10 = some (.int v11) ∧ (Q (some (.int v11)) h9)))))) ∧ (¬ x2 = 0 → ((x2 = 1 → ((am_L 6 (hR h (a0 + 20) 1) h4) ∧ ((am_L 2 ((hR h (a0 + 20) 1) + 1) h4) ∧ (EvM w mX9_get d [.ref (((hR h (a0 + 20) 1) + 1) + 1), .int x1] h4 (fun r15 h14 => ∃ v16 : Int32, r15 = some (.int v16) ∧ (Q (some (.int v16)) h14)))))) ∧ (¬ x2 = 1 → ((x2 = 2 → ((am_L 6 (hR h (a0 + 20) 1) h4) ∧ ((am_L 2 ((hR h (a0 + 20) 1) + 1) h4) ∧ (EvM w mX9_get d [.ref (((hR h (a0 + 20) 1) + 1) + 3), .int x1] h4 (fun r20 h19 => ∃ v21 : Int32, r20 = some (.int v21) ∧ (Q (some (.int v21)) h19)))))) ∧ (¬ x2 = 2 → ((x2 = 3 → ((am_L 6 (hR h (a0 + 20) 1) h4) ∧ (EvM w mX9_get d [.ref ((hR h (a0 + 20) 1) + 7), .int x1] h4 (fun r24 h23 => ∃ v25 : Int32, r24 = some (.int v25) ∧ (Q (some (.int v25)) h23))))) ∧ (¬ x2 = 3 → ((x2 = 4 → ((am_L 6 (hR h (a0 + 20) 1) h4) ∧ (EvM w mX9_get d [.ref ((hR h (a0 + 20) 1) + 8), .int x1] h4 (fun r28 h27 => ∃ v29 : Int32, r28 = some (.int v29) ∧ (Q (some (.int (v29 - 81))) h27))))) ∧ (¬ x2 = 4 → ((x2 = 5 → ((am_L 6 (hR h (a0 + 20) 1) h4) ∧ ((am_L 2 ((hR h (a0 + 20) 1) + 1) h4) ∧ (EvM w mX9_get d [.ref (((hR h (a0 + 20) 1) + 1) + 4), .int x1] h4 (fun r33 h32 => ∃ v34 : Int32, r33 = some (.int v34) ∧ (Q (some (.int v34)) h32)))))) ∧ (¬ x2 = 5 → (Q (some (.int ((-1)))) h4)))))))))))))))))))) : EvM w mX9_person (d + 1) [.ref a0, .int x1, .int x2] h Q := by
  show Ev w (am_Z w) mX9_person (d + 1) 0 [(0, .ref a0), (1, .int x1), (2, .int x2)] [] h Q
  refine Ev.aload_n 0 (am_dt kX9_person 0 rfl) rfl rfl ?_
  obtain ⟨f1, k⟩ := k
  refine Ev.getRe (ci := 9) (k := 2) (r := a0 + 20) (am_dt kX9_person 1 rfl) (by decide) (by decide) rfl wd_374 f1.1 (am_L.r f1 2 rfl) (by omega) ?_
  obtain ⟨f2, k⟩ := k
  obtain ⟨f3, k⟩ := k
  refine Ev.getR (ci := 7) (k := 1) (am_dt kX9_person 2 rfl) (by decide) (by decide) rfl wd_424 f2.1 f3 ?_
  refine Ev.astore_n (lv' := [(3, .ref (hR h (a0 + 20) 1)), (0, .ref a0), (1, .int x1), (2, .int x2)]) (am_dt kX9_person 3 rfl) rfl (by decide) rfl ?_
  refine Ev.aload_n 1 (am_dt kX9_person 4 rfl) rfl rfl ?_
  refine Ev.iload_n 2 (am_dt kX9_person 5 rfl) rfl rfl ?_
  refine Ev.callV (ci := 9) (v := mX9_isPerson) (As := [.int x1]) (st := []) okX9_isPerson wd_425 wd_426 wd_427 (am_dt kX9_person 6 rfl) (by decide) rfl rfl (Nat.le_of_ble_eq_true rfl) (Nat.le_of_ble_eq_true rfl) f1.1 ?_
  refine EvM.mono k (fun r5 h4 k => ?_)
  obtain ⟨v6, rfl, k⟩ := k
  show Ev w _ _ _ 13 _ [.int v6] _ _
  refine Ev.if_ne (tgt := 18) (am_dt kX9_person 7 rfl) (by decide) (fun c => ?_) (fun c => ?_)
  · have k := k.2 c
    refine Ev.iload_n 3 (am_dt kX9_person 10 rfl) rfl rfl ?_
    by_cases c : x2 = 0
    · refine Ev.tableIn (off := 37) (tgt := 56) (am_dt kX9_person 11 rfl) (by rw [c]; decide) (by rw [c]; decide) (by rw [c]; rfl) (by decide) ?_
      have k := k.1 c
      refine Ev.aload_n 0 (am_dt kX9_person 12 rfl) rfl rfl ?_
      obtain ⟨f7, k⟩ := k
      refine Ev.getRe (ci := 6) (k := 0) (r := (hR h (a0 + 20) 1) + 1) (am_dt kX9_person 13 rfl) (by decide) (by decide) rfl wd_428 f7.1 (am_L.r f7 0 rfl) (by omega) ?_
      obtain ⟨f8, k⟩ := k
      refine Ev.getRe (ci := 2) (k := 1) (r := ((hR h (a0 + 20) 1) + 1) + 2) (am_dt kX9_person 14 rfl) (by decide) (by decide) rfl wd_429 f8.1 (am_L.r f8 1 rfl) (by omega) ?_
      refine Ev.iload_n 2 (am_dt kX9_person 15 rfl) rfl rfl ?_
      refine Ev.callS (v := mX9_get) (As := [.ref (((hR h (a0 + 20) 1) + 1) + 2), .int x1]) (st := []) okX9_get wd_19 wd_430 (am_dt kX9_person 16 rfl) rfl rfl (Nat.le_of_ble_eq_true rfl) (Nat.le_of_ble_eq_true rfl) ?_
      refine EvM.mono k (fun r10 h9 k => ?_)
      obtain ⟨v11, rfl, k⟩ := k
      show Ev w _ _ _ 67 _ [.int v11] _ _
      exact Ev.iret .int (am_dt kX9_person 17 rfl) rfl rfl k
    have k := k.2 c
    have c0 := am_ne (n := 0) (by decide) c
    clear c
    by_cases c : x2 = 1
    · refine Ev.tableIn (off := 49) (tgt := 68) (am_dt kX9_person 11 rfl) (by rw [c]; decide) (by rw [c]; decide) (by rw [c]; rfl) (by decide) ?_
      have k := k.1 c
      refine Ev.aload_n 0 (am_dt kX9_person 18 rfl) rfl rfl ?_
      obtain ⟨f12, k⟩ := k
      refine Ev.getRe (ci := 6) (k := 0) (r := (hR h (a0 + 20) 1) + 1) (am_dt kX9_person 19 rfl) (by decide) (by decide) rfl wd_428 f12.1 (am_L.r f12 0 rfl) (by omega) ?_
      obtain ⟨f13, k⟩ := k
      refine Ev.getRe (ci := 2) (k := 0) (r := ((hR h (a0 + 20) 1) + 1) + 1) (am_dt kX9_person 20 rfl) (by decide) (by decide) rfl wd_431 f13.1 (am_L.r f13 0 rfl) (by omega) ?_
      refine Ev.iload_n 2 (am_dt kX9_person 21 rfl) rfl rfl ?_
      refine Ev.callS (v := mX9_get) (As := [.ref (((hR h (a0 + 20) 1) + 1) + 1), .int x1]) (st := []) okX9_get wd_19 wd_430 (am_dt kX9_person 22 rfl) rfl rfl (Nat.le_of_ble_eq_true rfl) (Nat.le_of_ble_eq_true rfl) ?_
      refine EvM.mono k (fun r15 h14 k => ?_)
      obtain ⟨v16, rfl, k⟩ := k
      show Ev w _ _ _ 79 _ [.int v16] _ _
      exact Ev.iret .int (am_dt kX9_person 23 rfl) rfl rfl k
    have k := k.2 c
    have c1 := am_ne (n := 1) (by decide) c
    clear c
    by_cases c : x2 = 2
    · refine Ev.tableIn (off := 61) (tgt := 80) (am_dt kX9_person 11 rfl) (by rw [c]; decide) (by rw [c]; decide) (by rw [c]; rfl) (by decide) ?_
      have k := k.1 c
      refine Ev.aload_n 0 (am_dt kX9_person 24 rfl) rfl rfl ?_
      obtain ⟨f17, k⟩ := k
      refine Ev.getRe (ci := 6) (k := 0) (r := (hR h (a0 + 20) 1) + 1) (am_dt kX9_person 25 rfl) (by decide) (by decide) rfl wd_428 f17.1 (am_L.r f17 0 rfl) (by omega) ?_
      obtain ⟨f18, k⟩ := k
      refine Ev.getRe (ci := 2) (k := 2) (r := ((hR h (a0 + 20) 1) + 1) + 3) (am_dt kX9_person 26 rfl) (by decide) (by decide) rfl wd_432 f18.1 (am_L.r f18 2 rfl) (by omega) ?_
      refine Ev.iload_n 2 (am_dt kX9_person 27 rfl) rfl rfl ?_
      refine Ev.callS (v := mX9_get) (As := [.ref (((hR h (a0 + 20) 1) + 1) + 3), .int x1]) (st := []) okX9_get wd_19 wd_430 (am_dt kX9_person 28 rfl) rfl rfl (Nat.le_of_ble_eq_true rfl) (Nat.le_of_ble_eq_true rfl) ?_
      refine EvM.mono k (fun r20 h19 k => ?_)
      obtain ⟨v21, rfl, k⟩ := k
      show Ev w _ _ _ 91 _ [.int v21] _ _
      exact Ev.iret .int (am_dt kX9_person 29 rfl) rfl rfl k
    have k := k.2 c
    have c2 := am_ne (n := 2) (by decide) c
    clear c
    by_cases c : x2 = 3
    · refine Ev.tableIn (off := 73) (tgt := 92) (am_dt kX9_person 11 rfl) (by rw [c]; decide) (by rw [c]; decide) (by rw [c]; rfl) (by decide) ?_
      have k := k.1 c
      refine Ev.aload_n 0 (am_dt kX9_person 30 rfl) rfl rfl ?_
      obtain ⟨f22, k⟩ := k
      refine Ev.getRe (ci := 6) (k := 1) (r := (hR h (a0 + 20) 1) + 7) (am_dt kX9_person 31 rfl) (by decide) (by decide) rfl wd_433 f22.1 (am_L.r f22 1 rfl) (by omega) ?_
      refine Ev.iload_n 2 (am_dt kX9_person 32 rfl) rfl rfl ?_
      refine Ev.callS (v := mX9_get) (As := [.ref ((hR h (a0 + 20) 1) + 7), .int x1]) (st := []) okX9_get wd_19 wd_430 (am_dt kX9_person 33 rfl) rfl rfl (Nat.le_of_ble_eq_true rfl) (Nat.le_of_ble_eq_true rfl) ?_
      refine EvM.mono k (fun r24 h23 k => ?_)
      obtain ⟨v25, rfl, k⟩ := k
      show Ev w _ _ _ 100 _ [.int v25] _ _
      exact Ev.iret .int (am_dt kX9_person 34 rfl) rfl rfl k
    have k := k.2 c
    have c3 := am_ne (n := 3) (by decide) c
    clear c
    by_cases c : x2 = 4
    · refine Ev.tableIn (off := 82) (tgt := 101) (am_dt kX9_person 11 rfl) (by rw [c]; decide) (by rw [c]; decide) (by rw [c]; rfl) (by decide) ?_
      have k := k.1 c
      refine Ev.aload_n 0 (am_dt kX9_person 35 rfl) rfl rfl ?_
      obtain ⟨f26, k⟩ := k
      refine Ev.getRe (ci := 6) (k := 2) (r := (hR h (a0 + 20) 1) + 8) (am_dt kX9_person 36 rfl) (by decide) (by decide) rfl wd_434 f26.1 (am_L.r f26 2 rfl) (by omega) ?_
      refine Ev.iload_n 2 (am_dt kX9_person 37 rfl) rfl rfl ?_
      refine Ev.callS (v := mX9_get) (As := [.ref ((hR h (a0 + 20) 1) + 8), .int x1]) (st := []) okX9_get wd_19 wd_430 (am_dt kX9_person 38 rfl) rfl rfl (Nat.le_of_ble_eq_true rfl) (Nat.le_of_ble_eq_true rfl) ?_
      refine EvM.mono k (fun r28 h27 k => ?_)
      obtain ⟨v29, rfl, k⟩ := k
      show Ev w _ _ _ 109 _ [.int v29] _ _
      refine Ev.bipush (v := 81) (am_dt kX9_person 39 rfl) (by decide) ?_
      refine Ev.isub (am_dt kX9_person 40 rfl) ?_
      exact Ev.iret .int (am_dt kX9_person 41 rfl) rfl rfl k
    have k := k.2 c
    have c4 := am_ne (n := 4) (by decide) c
    clear c
    by_cases c : x2 = 5
    · refine Ev.tableIn (off := 94) (tgt := 113) (am_dt kX9_person 11 rfl) (by rw [c]; decide) (by rw [c]; decide) (by rw [c]; rfl) (by decide) ?_
      have k := k.1 c
      refine Ev.aload_n 0 (am_dt kX9_person 42 rfl) rfl rfl ?_
      obtain ⟨f30, k⟩ := k
      refine Ev.getRe (ci := 6) (k := 0) (r := (hR h (a0 + 20) 1) + 1) (am_dt kX9_person 43 rfl) (by decide) (by decide) rfl wd_428 f30.1 (am_L.r f30 0 rfl) (by omega) ?_
      obtain ⟨f31, k⟩ := k
      refine Ev.getRe (ci := 2) (k := 3) (r := ((hR h (a0 + 20) 1) + 1) + 4) (am_dt kX9_person 44 rfl) (by decide) (by decide) rfl wd_435 f31.1 (am_L.r f31 3 rfl) (by omega) ?_
      refine Ev.iload_n 2 (am_dt kX9_person 45 rfl) rfl rfl ?_
      refine Ev.callS (v := mX9_get) (As := [.ref (((hR h (a0 + 20) 1) + 1) + 4), .int x1]) (st := []) okX9_get wd_19 wd_430 (am_dt kX9_person 46 rfl) rfl rfl (Nat.le_of_ble_eq_true rfl) (Nat.le_of_ble_eq_true rfl) ?_
      refine EvM.mono k (fun r33 h32 k => ?_)
      obtain ⟨v34, rfl, k⟩ := k
      show Ev w _ _ _ 124 _ [.int v34] _ _
      exact Ev.iret .int (am_dt kX9_person 47 rfl) rfl rfl k
    have k := k.2 c
    have c5 := am_ne (n := 5) (by decide) c
    clear c
    refine Ev.tableOut (tgt := 125) (am_dt kX9_person 11 rfl) (by omega) (by decide) ?_
    refine Ev.iconst (v := (-1)) (am_dt kX9_person 48 rfl) (by decide) ?_
    exact Ev.iret .int (am_dt kX9_person 49 rfl) rfl rfl k
  · have k := k.1 c
    refine Ev.iconst (v := (-1)) (am_dt kX9_person 8 rfl) (by decide) ?_
    exact Ev.iret .int (am_dt kX9_person 9 rfl) rfl rfl k
set_option maxRecDepth 20000 in
set_option maxHeartbeats 2000000 in
theorem bX9_use_0 {w : am_W} {d : Nat} {h : am_H} {Q : Option Value → am_H → Prop} {a0 : Nat} {x1 : Int32}  (k : (x1 < ((-1)) → (Q (some (.int 0)) h)) ∧ (¬ x1 < ((-1)) → ((am_L 9 a0 h) ∧ ((am_L 7 (a0 + 20) h) ∧ ((hR h (a0 + 20) 1 ≠ 0) ∧ ((am_L 6 (hR h (a0 + 20) 1) h) ∧ ((x1 < (hI h (hR h (a0 + 20) 1) 13) → (∀ h5 : am_H, h5 = sI h (a0 + 20) 2 x1 → (EvM w mX9_forget d [.ref a0] h5 (fun r7 h6 => r7 = none ∧ (Q (some (.int 1)) h6))))) ∧ (¬ x1 < (hI h (hR h (a0 + 20) 1) 13) → (Q (some (.int 0)) h))))))))) : EvM w mX9_use (d + 1) [.ref a0, .int x1] h Q := by
  show Ev w (am_Z w) mX9_use (d + 1) 0 [(0, .ref a0), (1, .int x1)] [] h Q
  refine Ev.iload_n 1 (am_dt kX9_use 0 rfl) rfl rfl ?_
  refine Ev.iconst (v := (-1)) (am_dt kX9_use 1 rfl) (by decide) ?_
  refine Ev.icmp_lt (tgt := 19) (am_dt kX9_use 2 rfl) (by decide) (fun c => ?_) (fun c => ?_)
  · have k := k.1 c
    refine Ev.iconst (v := 0) (am_dt kX9_use 9 rfl) (by decide) ?_
    exact Ev.iret .boolean (am_dt kX9_use 10 rfl) rfl rfl k
  · have k := k.2 c
    refine Ev.iload_n 1 (am_dt kX9_use 3 rfl) rfl rfl ?_
    refine Ev.aload_n 0 (am_dt kX9_use 4 rfl) rfl rfl ?_
    obtain ⟨f1, k⟩ := k
    refine Ev.getRe (ci := 9) (k := 2) (r := a0 + 20) (am_dt kX9_use 5 rfl) (by decide) (by decide) rfl wd_374 f1.1 (am_L.r f1 2 rfl) (by omega) ?_
    obtain ⟨f2, k⟩ := k
    obtain ⟨f3, k⟩ := k
    refine Ev.getR (ci := 7) (k := 1) (am_dt kX9_use 6 rfl) (by decide) (by decide) rfl wd_424 f2.1 f3 ?_
    obtain ⟨f4, k⟩ := k
    refine Ev.getI (ci := 6) (k := 13) (am_dt kX9_use 7 rfl) (by decide) (by decide) rfl wd_436 f4.1 ?_
    refine Ev.icmp_lt (tgt := 21) (am_dt kX9_use 8 rfl) (by decide) (fun c => ?_) (fun c => ?_)
    · have k := k.1 c
      refine Ev.aload_n 0 (am_dt kX9_use 11 rfl) rfl rfl ?_
      refine Ev.getRe (ci := 9) (k := 2) (r := a0 + 20) (am_dt kX9_use 12 rfl) (by decide) (by decide) rfl wd_374 f1.1 (am_L.r f1 2 rfl) (by omega) ?_
      refine Ev.iload_n 1 (am_dt kX9_use 13 rfl) rfl rfl ?_
      refine Ev.putI' (ci := 7) (k := 2) (am_dt kX9_use 14 rfl) (by decide) (by decide) wd_437 rfl rfl rfl rfl f2.1 (fun h5 eh5 => ?_)
      have k := k h5 eh5
      have f1 := am_LsI eh5 f1
      have f2 := am_LsI eh5 f2
      have f4 := am_LsI eh5 f4
      refine Ev.aload_n 0 (am_dt kX9_use 15 rfl) rfl rfl ?_
      refine Ev.callV (ci := 9) (v := mX9_forget) (As := []) (st := []) okX9_forget wd_421 wd_422 wd_423 (am_dt kX9_use 16 rfl) (by decide) rfl rfl (Nat.le_of_ble_eq_true rfl) (Nat.le_of_ble_eq_true rfl) f1.1 ?_
      refine EvM.mono k (fun r7 h6 k => ?_)
      obtain ⟨rfl, k⟩ := k
      show Ev w _ _ _ 33 _ [] _ _
      refine Ev.iconst (v := 1) (am_dt kX9_use 17 rfl) (by decide) ?_
      exact Ev.iret .boolean (am_dt kX9_use 18 rfl) rfl rfl k
    · have k := k.2 c
      refine Ev.iconst (v := 0) (am_dt kX9_use 9 rfl) (by decide) ?_
      exact Ev.iret .boolean (am_dt kX9_use 10 rfl) rfl rfl k
set_option maxRecDepth 20000 in
set_option maxHeartbeats 2000000 in
theorem bX9_rings_0 {w : am_W} {d : Nat} {h : am_H} {Q : Option Value → am_H → Prop} {a0 : Nat}  (k : (am_L 9 a0 h) ∧ (EvM w mX9_knowDay d [.ref a0] h (fun r3 h2 => r3 = none ∧ ((am_L 9 a0 h2) ∧ ((am_L 3 (a0 + 31) h2) ∧ (Q (some (.int (hI h2 (a0 + 31) 10))) h2)))))) : EvM w mX9_rings (d + 1) [.ref a0] h Q := by
  show Ev w (am_Z w) mX9_rings (d + 1) 0 [(0, .ref a0)] [] h Q
  refine Ev.aload_n 0 (am_dt kX9_rings 0 rfl) rfl rfl ?_
  obtain ⟨f1, k⟩ := k
  refine Ev.callV (ci := 9) (v := mX9_knowDay) (As := []) (st := []) okX9_knowDay wd_438 wd_439 wd_440 (am_dt kX9_rings 1 rfl) (by decide) rfl rfl (Nat.le_of_ble_eq_true rfl) (Nat.le_of_ble_eq_true rfl) f1.1 ?_
  refine EvM.mono k (fun r3 h2 k => ?_)
  obtain ⟨rfl, k⟩ := k
  show Ev w _ _ _ 4 _ [] _ _
  refine Ev.aload_n 0 (am_dt kX9_rings 2 rfl) rfl rfl ?_
  obtain ⟨f4, k⟩ := k
  refine Ev.getRe (ci := 9) (k := 4) (r := a0 + 31) (am_dt kX9_rings 3 rfl) (by decide) (by decide) rfl wd_390 f4.1 (am_L.r f4 4 rfl) (by omega) ?_
  obtain ⟨f5, k⟩ := k
  refine Ev.getI (ci := 3) (k := 10) (am_dt kX9_rings 4 rfl) (by decide) (by decide) rfl wd_441 f5.1 ?_
  exact Ev.iret .int (am_dt kX9_rings 5 rfl) rfl rfl k
set_option maxRecDepth 20000 in
set_option maxHeartbeats 2000000 in
theorem bX9_ring_0 {w : am_W} {d : Nat} {h : am_H} {Q : Option Value → am_H → Prop} {a0 : Nat} {x1 : Int32} {x2 : Int32}  (k : (am_L 9 a0 h) ∧ (EvM w mX9_knowDay d [.ref a0] h (fun r3 h2 => r3 = none ∧ ((x1 < 0 → (Q (some (.int ((-1)))) h2)) ∧ (¬ x1 < 0 → ((am_L 9 a0 h2) ∧ ((am_L 3 (a0 + 31) h2) ∧ ((x1 < (hI h2 (a0 + 31) 10) → ((x2 = 0 → (EvM w mX9_get d [.ref (a0 + 41), .int x1] h2 (fun r7 h6 => ∃ v8 : Int32, r7 = some (.int v8) ∧ (Q (some (.int v8)) h6)))) ∧ (¬ x2 = 0 → ((x2 = 1 → (EvM w mX9_get d [.ref (a0 + 42), .int x1] h2 (fun r10 h9 => ∃ v11 : Int32, r10 = some (.int v11) ∧ (Q (some (.int v11)) h9)))) ∧ (¬ x2 = 1 → ((x2 = 2 → (EvM w mX9_get d [.ref (a0 + 43), .int x1] h2 (fun r13 h12 => ∃ v14 : Int32, r13 = some (.int v14) ∧ (Q (some (.int v14)) h12)))) ∧ (¬ x2 = 2 → (Q (some (.int ((-1)))) h2)))))))) ∧ (¬ x1 < (hI h2 (a0 + 31) 10) → (Q (some (.int ((-1)))) h2)))))))))) : EvM w mX9_ring (d + 1) [.ref a0, .int x1, .int x2] h Q := by
  show Ev w (am_Z w) mX9_ring (d + 1) 0 [(0, .ref a0), (1, .int x1), (2, .int x2)] [] h Q
  refine Ev.aload_n 0 (am_dt kX9_ring 0 rfl) rfl rfl ?_
  obtain ⟨f1, k⟩ := k
  refine Ev.callV (ci := 9) (v := mX9_knowDay) (As := []) (st := []) okX9_knowDay wd_438 wd_439 wd_440 (am_dt kX9_ring 1 rfl) (by decide) rfl rfl (Nat.le_of_ble_eq_true rfl) (Nat.le_of_ble_eq_true rfl) f1.1 ?_
  refine EvM.mono k (fun r3 h2 k => ?_)
  obtain ⟨rfl, k⟩ := k
  show Ev w _ _ _ 4 _ [] _ _
  refine Ev.iload_n 1 (am_dt kX9_ring 2 rfl) rfl rfl ?_
  refine Ev.if_lt (tgt := 19) (am_dt kX9_ring 3 rfl) (by decide) (fun c => ?_) (fun c => ?_)
  · have k := k.1 c
    refine Ev.iconst (v := (-1)) (am_dt kX9_ring 9 rfl) (by decide) ?_
    exact Ev.iret .int (am_dt kX9_ring 10 rfl) rfl rfl k
  · have k := k.2 c
    refine Ev.iload_n 1 (am_dt kX9_ring 4 rfl) rfl rfl ?_
    refine Ev.aload_n 0 (am_dt kX9_ring 5 rfl) rfl rfl ?_
    obtain ⟨f4, k⟩ := k
    refine Ev.getRe (ci := 9) (k := 4) (r := a0 + 31) (am_dt kX9_ring 6 rfl) (by decide) (by decide) rfl wd_390 f4.1 (am_L.r f4 4 rfl) (by omega) ?_
    obtain ⟨f5, k⟩ := k
    refine Ev.getI (ci := 3) (k := 10) (am_dt kX9_ring 7 rfl) (by decide) (by decide) rfl wd_441 f5.1 ?_
    refine Ev.icmp_lt (tgt := 21) (am_dt kX9_ring 8 rfl) (by decide) (fun c => ?_) (fun c => ?_)
    · have k := k.1 c
      refine Ev.iload_n 2 (am_dt kX9_ring 11 rfl) rfl rfl ?_
      by_cases c : x2 = 0
      · refine Ev.tableIn (off := 26) (tgt := 48) (am_dt kX9_ring 12 rfl) (by rw [c]; decide) (by rw [c]; decide) (by rw [c]; rfl) (by decide) ?_
        have k := k.1 c
        refine Ev.aload_n 0 (am_dt kX9_ring 13 rfl) rfl rfl ?_
        refine Ev.getRe (ci := 9) (k := 4) (r := a0 + 31) (am_dt kX9_ring 14 rfl) (by decide) (by decide) rfl wd_390 f4.1 (am_L.r f4 4 rfl) (by omega) ?_
        refine Ev.getRe (ci := 3) (k := 4) (r := a0 + 41) (am_dt kX9_ring 15 rfl) (by decide) (by decide) rfl wd_442 f5.1 (am_L.r f5 7 rfl) (by omega) ?_
        refine Ev.iload_n 1 (am_dt kX9_ring 16 rfl) rfl rfl ?_
        refine Ev.callS (v := mX9_get) (As := [.ref (a0 + 41), .int x1]) (st := []) okX9_get wd_19 wd_430 (am_dt kX9_ring 17 rfl) rfl rfl (Nat.le_of_ble_eq_true rfl) (Nat.le_of_ble_eq_true rfl) ?_
        refine EvM.mono k (fun r7 h6 k => ?_)
        obtain ⟨v8, rfl, k⟩ := k
        show Ev w _ _ _ 59 _ [.int v8] _ _
        exact Ev.iret .int (am_dt kX9_ring 18 rfl) rfl rfl k
      have k := k.2 c
      have c0 := am_ne (n := 0) (by decide) c
      clear c
      by_cases c : x2 = 1
      · refine Ev.tableIn (off := 38) (tgt := 60) (am_dt kX9_ring 12 rfl) (by rw [c]; decide) (by rw [c]; decide) (by rw [c]; rfl) (by decide) ?_
        have k := k.1 c
        refine Ev.aload_n 0 (am_dt kX9_ring 19 rfl) rfl rfl ?_
        refine Ev.getRe (ci := 9) (k := 4) (r := a0 + 31) (am_dt kX9_ring 20 rfl) (by decide) (by decide) rfl wd_390 f4.1 (am_L.r f4 4 rfl) (by omega) ?_
        refine Ev.getRe (ci := 3) (k := 5) (r := a0 + 42) (am_dt kX9_ring 21 rfl) (by decide) (by decide) rfl wd_443 f5.1 (am_L.r f5 8 rfl) (by omega) ?_
        refine Ev.iload_n 1 (am_dt kX9_ring 22 rfl) rfl rfl ?_
        refine Ev.callS (v := mX9_get) (As := [.ref (a0 + 42), .int x1]) (st := []) okX9_get wd_19 wd_430 (am_dt kX9_ring 23 rfl) rfl rfl (Nat.le_of_ble_eq_true rfl) (Nat.le_of_ble_eq_true rfl) ?_
        refine EvM.mono k (fun r10 h9 k => ?_)
        obtain ⟨v11, rfl, k⟩ := k
        show Ev w _ _ _ 71 _ [.int v11] _ _
        exact Ev.iret .int (am_dt kX9_ring 24 rfl) rfl rfl k
      have k := k.2 c
      have c1 := am_ne (n := 1) (by decide) c
      clear c
      by_cases c : x2 = 2
      · refine Ev.tableIn (off := 50) (tgt := 72) (am_dt kX9_ring 12 rfl) (by rw [c]; decide) (by rw [c]; decide) (by rw [c]; rfl) (by decide) ?_
        have k := k.1 c
        refine Ev.aload_n 0 (am_dt kX9_ring 25 rfl) rfl rfl ?_
        refine Ev.getRe (ci := 9) (k := 4) (r := a0 + 31) (am_dt kX9_ring 26 rfl) (by decide) (by decide) rfl wd_390 f4.1 (am_L.r f4 4 rfl) (by omega) ?_
        refine Ev.getRe (ci := 3) (k := 6) (r := a0 + 43) (am_dt kX9_ring 27 rfl) (by decide) (by decide) rfl wd_444 f5.1 (am_L.r f5 9 rfl) (by omega) ?_
        refine Ev.iload_n 1 (am_dt kX9_ring 28 rfl) rfl rfl ?_
        refine Ev.callS (v := mX9_get) (As := [.ref (a0 + 43), .int x1]) (st := []) okX9_get wd_19 wd_430 (am_dt kX9_ring 29 rfl) rfl rfl (Nat.le_of_ble_eq_true rfl) (Nat.le_of_ble_eq_true rfl) ?_
        refine EvM.mono k (fun r13 h12 k => ?_)
        obtain ⟨v14, rfl, k⟩ := k
        show Ev w _ _ _ 83 _ [.int v14] _ _
        exact Ev.iret .int (am_dt kX9_ring 30 rfl) rfl rfl k
      have k := k.2 c
      have c2 := am_ne (n := 2) (by decide) c
      clear c
      refine Ev.tableOut (tgt := 84) (am_dt kX9_ring 12 rfl) (by omega) (by decide) ?_
      refine Ev.iconst (v := (-1)) (am_dt kX9_ring 31 rfl) (by decide) ?_
      exact Ev.iret .int (am_dt kX9_ring 32 rfl) rfl rfl k
    · have k := k.2 c
      refine Ev.iconst (v := (-1)) (am_dt kX9_ring 9 rfl) (by decide) ?_
      exact Ev.iret .int (am_dt kX9_ring 10 rfl) rfl rfl k
set_option maxRecDepth 20000 in
set_option maxHeartbeats 2000000 in
theorem bX9_waits_0 {w : am_W} {d : Nat} {h : am_H} {Q : Option Value → am_H → Prop} {a0 : Nat} {x1 : Int32} {x2 : Int32}  (k : (am_L 9 a0 h) ∧ (EvM w mX9_knowDay d [.ref a0] h (fun r3 h2 => r3 = none ∧ ((am_L 9 a0 h2) ∧ (EvM w mX9_isPerson d [.ref a0, .int x1] h2 (fun r6 h5 => ∃ v7 : Int32, r6 = some (.int v7) ∧ ((v7 = 0 → (Q (some (.int ((-1)))) h5)) ∧ (¬ v7 = 0 → ((x2 = 0 → ((am_L 9 a0 h5) ∧ (EvM w mX3_waitOf d [.ref (a0 + 31), .int x1] h5 (fun r10 h9 => ∃ v11 : Int32, r10 = some (.int v11) ∧ (Q (some (.int v11)) h9))))) ∧ (¬ x2 = 0 → ((x2 = 1 → ((am_L 9 a0 h5) ∧ ((am_L 3 (a0 + 31) h5) ∧ (EvM w mX9_get d [.ref (a0 + 40), .int x1] h5 (fun r15 h14 => ∃ v16 : Int32, r15 = some (.int v16) ∧ (Q (some (.int v16)) h14)))))) ∧ (¬ x2 = 1 → (Q (some (.int ((-1)))) h5))))))))))))) : EvM w mX9_waits (d + 1) [.ref a0, .int x1, .int x2] h Q := by
  show Ev w (am_Z w) mX9_waits (d + 1) 0 [(0, .ref a0), (1, .int x1), (2, .int x2)] [] h Q
  refine Ev.aload_n 0 (am_dt kX9_waits 0 rfl) rfl rfl ?_
  obtain ⟨f1, k⟩ := k
  refine Ev.callV (ci := 9) (v := mX9_knowDay) (As := []) (st := []) okX9_knowDay wd_438 wd_439 wd_440 (am_dt kX9_waits 1 rfl) (by decide) rfl rfl (Nat.le_of_ble_eq_true rfl) (Nat.le_of_ble_eq_true rfl) f1.1 ?_
  refine EvM.mono k (fun r3 h2 k => ?_)
  obtain ⟨rfl, k⟩ := k
  show Ev w _ _ _ 4 _ [] _ _
  refine Ev.aload_n 0 (am_dt kX9_waits 2 rfl) rfl rfl ?_
  refine Ev.iload_n 1 (am_dt kX9_waits 3 rfl) rfl rfl ?_
  obtain ⟨f4, k⟩ := k
  refine Ev.callV (ci := 9) (v := mX9_isPerson) (As := [.int x1]) (st := []) okX9_isPerson wd_425 wd_426 wd_427 (am_dt kX9_waits 4 rfl) (by decide) rfl rfl (Nat.le_of_ble_eq_true rfl) (Nat.le_of_ble_eq_true rfl) f4.1 ?_
  refine EvM.mono k (fun r6 h5 k => ?_)
  obtain ⟨v7, rfl, k⟩ := k
  show Ev w _ _ _ 9 _ [.int v7] _ _
  refine Ev.if_ne (tgt := 14) (am_dt kX9_waits 5 rfl) (by decide) (fun c => ?_) (fun c => ?_)
  · have k := k.2 c
    refine Ev.iload_n 2 (am_dt kX9_waits 8 rfl) rfl rfl ?_
    by_cases c : x2 = 0
    · refine Ev.lookup (off := 25) (tgt := 40) (am_dt kX9_waits 9 rfl) (by decide) (by rw [c]; rfl) (by decide) ?_
      have k := k.1 c
      refine Ev.aload_n 0 (am_dt kX9_waits 10 rfl) rfl rfl ?_
      obtain ⟨f8, k⟩ := k
      refine Ev.getRe (ci := 9) (k := 4) (r := a0 + 31) (am_dt kX9_waits 11 rfl) (by decide) (by decide) rfl wd_390 f8.1 (am_L.r f8 4 rfl) (by omega) ?_
      refine Ev.iload_n 1 (am_dt kX9_waits 12 rfl) rfl rfl ?_
      refine Ev.callV (ci := 3) (v := mX3_waitOf) (As := [.int x1]) (st := []) okX3_waitOf wd_275 wd_276 wd_445 (am_dt kX9_waits 13 rfl) (by decide) rfl rfl (Nat.le_of_ble_eq_true rfl) (Nat.le_of_ble_eq_true rfl) (am_L.s f8 4 rfl) ?_
      refine EvM.mono k (fun r10 h9 k => ?_)
      obtain ⟨v11, rfl, k⟩ := k
      show Ev w _ _ _ 48 _ [.int v11] _ _
      exact Ev.iret .int (am_dt kX9_waits 14 rfl) rfl rfl k
    have k := k.2 c
    have c0 := am_ne (n := 0) (by decide) c
    clear c
    by_cases c : x2 = 1
    · refine Ev.lookup (off := 34) (tgt := 49) (am_dt kX9_waits 9 rfl) (by decide) (by rw [c]; rfl) (by decide) ?_
      have k := k.1 c
      refine Ev.aload_n 0 (am_dt kX9_waits 15 rfl) rfl rfl ?_
      obtain ⟨f12, k⟩ := k
      refine Ev.getRe (ci := 9) (k := 4) (r := a0 + 31) (am_dt kX9_waits 16 rfl) (by decide) (by decide) rfl wd_390 f12.1 (am_L.r f12 4 rfl) (by omega) ?_
      obtain ⟨f13, k⟩ := k
      refine Ev.getRe (ci := 3) (k := 3) (r := a0 + 40) (am_dt kX9_waits 17 rfl) (by decide) (by decide) rfl wd_446 f13.1 (am_L.r f13 6 rfl) (by omega) ?_
      refine Ev.iload_n 1 (am_dt kX9_waits 18 rfl) rfl rfl ?_
      refine Ev.callS (v := mX9_get) (As := [.ref (a0 + 40), .int x1]) (st := []) okX9_get wd_19 wd_430 (am_dt kX9_waits 19 rfl) rfl rfl (Nat.le_of_ble_eq_true rfl) (Nat.le_of_ble_eq_true rfl) ?_
      refine EvM.mono k (fun r15 h14 k => ?_)
      obtain ⟨v16, rfl, k⟩ := k
      show Ev w _ _ _ 60 _ [.int v16] _ _
      exact Ev.iret .int (am_dt kX9_waits 20 rfl) rfl rfl k
    have k := k.2 c
    have c1 := am_ne (n := 1) (by decide) c
    clear c
    refine Ev.lookup (off := 46) (tgt := 61) (am_dt kX9_waits 9 rfl) (by decide) (by simp [Op.lookupswitch.offset, c0, c1, Ne.symm]) (by decide) ?_
    refine Ev.iconst (v := (-1)) (am_dt kX9_waits 21 rfl) (by decide) ?_
    exact Ev.iret .int (am_dt kX9_waits 22 rfl) rfl rfl k
  · have k := k.1 c
    refine Ev.iconst (v := (-1)) (am_dt kX9_waits 6 rfl) (by decide) ?_
    exact Ev.iret .int (am_dt kX9_waits 7 rfl) rfl rfl k
set_option maxRecDepth 20000 in
set_option maxHeartbeats 2000000 in
theorem bX9_all_0 {w : am_W} {d : Nat} {h : am_H} {Q : Option Value → am_H → Prop} {a0 : Nat} {x1 : Int32}  (k : (am_L 9 a0 h) ∧ (EvM w mX9_knowDay d [.ref a0] h (fun r3 h2 => r3 = none ∧ ((x1 = 0 → ((am_L 9 a0 h2) ∧ (EvM w mX3_costWithout d [.ref (a0 + 31), .int ((-1))] h2 (fun r6 h5 => ∃ v7 : Int32, r6 = some (.int v7) ∧ (Q (some (.int v7)) h5))))) ∧ (¬ x1 = 0 → ((x1 = 1 → ((am_L 9 a0 h2) ∧ (EvM w mX3_longestWait d [.ref (a0 + 31)] h2 (fun r10 h9 => ∃ v11 : Int32, r10 = some (.int v11) ∧ (Q (some (.int v11)) h9))))) ∧ (¬ x1 = 1 → ((x1 = 2 → ((am_L 9 a0 h2) ∧ (EvM w mX9_nightBits d [.ref a0] h2 (fun r14 h13 => ∃ v15 : Int32, r14 = some (.int v15) ∧ (Q (some (.int v15)) h13))))) ∧ (¬ x1 = 2 → (Q (some (.int ((-1)))) h2)))))))))) : EvM w mX9_all (d + 1) [.ref a0, .int x1] h Q := by
  show Ev w (am_Z w) mX9_all (d + 1) 0 [(0, .ref a0), (1, .int x1)] [] h Q
  refine Ev.aload_n 0 (am_dt kX9_all 0 rfl) rfl rfl ?_
  obtain ⟨f1, k⟩ := k
  refine Ev.callV (ci := 9) (v := mX9_knowDay) (As := []) (st := []) okX9_knowDay wd_438 wd_439 wd_440 (am_dt kX9_all 1 rfl) (by decide) rfl rfl (Nat.le_of_ble_eq_true rfl) (Nat.le_of_ble_eq_true rfl) f1.1 ?_
  refine EvM.mono k (fun r3 h2 k => ?_)
  obtain ⟨rfl, k⟩ := k
  show Ev w _ _ _ 4 _ [] _ _
  refine Ev.iload_n 1 (am_dt kX9_all 2 rfl) rfl rfl ?_
  by_cases c : x1 = 0
  · refine Ev.tableIn (off := 27) (tgt := 32) (am_dt kX9_all 3 rfl) (by rw [c]; decide) (by rw [c]; decide) (by rw [c]; rfl) (by decide) ?_
    have k := k.1 c
    refine Ev.aload_n 0 (am_dt kX9_all 4 rfl) rfl rfl ?_
    obtain ⟨f4, k⟩ := k
    refine Ev.getRe (ci := 9) (k := 4) (r := a0 + 31) (am_dt kX9_all 5 rfl) (by decide) (by decide) rfl wd_390 f4.1 (am_L.r f4 4 rfl) (by omega) ?_
    refine Ev.iconst (v := (-1)) (am_dt kX9_all 6 rfl) (by decide) ?_
    refine Ev.callV (ci := 3) (v := mX3_costWithout) (As := [.int ((-1))]) (st := []) okX3_costWithout wd_349 wd_350 wd_447 (am_dt kX9_all 7 rfl) (by decide) rfl rfl (Nat.le_of_ble_eq_true rfl) (Nat.le_of_ble_eq_true rfl) (am_L.s f4 4 rfl) ?_
    refine EvM.mono k (fun r6 h5 k => ?_)
    obtain ⟨v7, rfl, k⟩ := k
    show Ev w _ _ _ 40 _ [.int v7] _ _
    exact Ev.iret .int (am_dt kX9_all 8 rfl) rfl rfl k
  have k := k.2 c
  have c0 := am_ne (n := 0) (by decide) c
  clear c
  by_cases c : x1 = 1
  · refine Ev.tableIn (off := 36) (tgt := 41) (am_dt kX9_all 3 rfl) (by rw [c]; decide) (by rw [c]; decide) (by rw [c]; rfl) (by decide) ?_
    have k := k.1 c
    refine Ev.aload_n 0 (am_dt kX9_all 9 rfl) rfl rfl ?_
    obtain ⟨f8, k⟩ := k
    refine Ev.getRe (ci := 9) (k := 4) (r := a0 + 31) (am_dt kX9_all 10 rfl) (by decide) (by decide) rfl wd_390 f8.1 (am_L.r f8 4 rfl) (by omega) ?_
    refine Ev.callV (ci := 3) (v := mX3_longestWait) (As := []) (st := []) okX3_longestWait wd_448 wd_449 wd_450 (am_dt kX9_all 11 rfl) (by decide) rfl rfl (Nat.le_of_ble_eq_true rfl) (Nat.le_of_ble_eq_true rfl) (am_L.s f8 4 rfl) ?_
    refine EvM.mono k (fun r10 h9 k => ?_)
    obtain ⟨v11, rfl, k⟩ := k
    show Ev w _ _ _ 48 _ [.int v11] _ _
    exact Ev.iret .int (am_dt kX9_all 12 rfl) rfl rfl k
  have k := k.2 c
  have c1 := am_ne (n := 1) (by decide) c
  clear c
  by_cases c : x1 = 2
  · refine Ev.tableIn (off := 44) (tgt := 49) (am_dt kX9_all 3 rfl) (by rw [c]; decide) (by rw [c]; decide) (by rw [c]; rfl) (by decide) ?_
    have k := k.1 c
    refine Ev.aload_n 0 (am_dt kX9_all 13 rfl) rfl rfl ?_
    obtain ⟨f12, k⟩ := k
    refine Ev.callV (ci := 9) (v := mX9_nightBits) (As := []) (st := []) okX9_nightBits wd_451 wd_452 wd_453 (am_dt kX9_all 14 rfl) (by decide) rfl rfl (Nat.le_of_ble_eq_true rfl) (Nat.le_of_ble_eq_true rfl) f12.1 ?_
    refine EvM.mono k (fun r14 h13 k => ?_)
    obtain ⟨v15, rfl, k⟩ := k
    show Ev w _ _ _ 53 _ [.int v15] _ _
    exact Ev.iret .int (am_dt kX9_all 15 rfl) rfl rfl k
  have k := k.2 c
  have c2 := am_ne (n := 2) (by decide) c
  clear c
  refine Ev.tableOut (tgt := 54) (am_dt kX9_all 3 rfl) (by omega) (by decide) ?_
  refine Ev.iconst (v := (-1)) (am_dt kX9_all 16 rfl) (by decide) ?_
  exact Ev.iret .int (am_dt kX9_all 17 rfl) rfl rfl k
set_option maxRecDepth 20000 in
set_option maxHeartbeats 2000000 in
theorem bX9_bank_0 {w : am_W} {d : Nat} {h : am_H} {Q : Option Value → am_H → Prop} {a0 : Nat} {x1 : Int32} {x2 : Int32} {x3 : Int32}  (k : (x1 < 0 → (Q (some (.int ((-1)))) h)) ∧ (¬ x1 < 0 → ((2 ≤ x1 → (Q (some (.int ((-1)))) h)) ∧ (¬ 2 ≤ x1 → (EvM w mX9_isMinute d [.int x2] h (fun r2 h1 => ∃ v3 : Int32, r2 = some (.int v3) ∧ ((v3 = 0 → (Q (some (.int ((-1)))) h1)) ∧ (¬ v3 = 0 → ((am_L 9 a0 h1) ∧ (EvM w mX9_knowDay d [.ref a0] h1 (fun r6 h5 => r6 = none ∧ ((x3 = 0 → ((am_L 9 a0 h5) ∧ (EvM w mX9_heads d [.ref a0, .int x1, .int x2] h5 (fun r9 h8 => ∃ v10 : Int32, r9 = some (.int v10) ∧ (Q (some (.int v10)) h8))))) ∧ (¬ x3 = 0 → ((x3 = 1 → ((am_L 9 a0 h5) ∧ ((am_L 7 (a0 + 20) h5) ∧ ((hR h5 (a0 + 20) 1 ≠ 0) ∧ ((am_L 6 (hR h5 (a0 + 20) 1) h5) ∧ ((am_L 2 ((hR h5 (a0 + 20) 1) + 1) h5) ∧ (EvM w mX9_together d [.ref a0, .ref (((hR h5 (a0 + 20) 1) + 1) + 4), .int x1, .int x2] h5 (fun r17 h16 => ∃ v18 : Int32, r17 = some (.int v18) ∧ (Q (some (.int v18)) h16))))))))) ∧ (¬ x3 = 1 → ((x3 = 2 → ((am_L 9 a0 h5) ∧ ((am_L 7 (a0 + 20) h5) ∧ ((hR h5 (a0 + 20) 1 ≠ 0) ∧ ((am_L 6 (hR h5 (a0 + 20) 1) h5) ∧ ((am_L 2 ((hR h5 (a0 + 20) 1) + 1) h5) ∧ (EvM w mX9_together d [.ref a0, .ref (((hR h5 (a0 + 20) 1) + 1) + 3), .int x1, .int x2] h5 (fun r25 h24 => ∃ v26 : Int32, r25 = some (.int v26) ∧ (Q (some (.int v26)) h24))))))))) ∧ (¬ x3 = 2 → (Q (some (.int ((-1)))) h5)))))))))))))))))) : EvM w mX9_bank (d + 1) [.ref a0, .int x1, .int x2, .int x3] h Q := by
  show Ev w (am_Z w) mX9_bank (d + 1) 0 [(0, .ref a0), (1, .int x1), (2, .int x2), (3, .int x3)] [] h Q
  refine Ev.iload_n 1 (am_dt kX9_bank 0 rfl) rfl rfl ?_
  refine Ev.if_lt (tgt := 16) (am_dt kX9_bank 1 rfl) (by decide) (fun c => ?_) (fun c => ?_)
  · have k := k.1 c
    refine Ev.iconst (v := (-1)) (am_dt kX9_bank 8 rfl) (by decide) ?_
    exact Ev.iret .int (am_dt kX9_bank 9 rfl) rfl rfl k
  · have k := k.2 c
    refine Ev.iload_n 1 (am_dt kX9_bank 2 rfl) rfl rfl ?_
    refine Ev.iconst (v := 2) (am_dt kX9_bank 3 rfl) (by decide) ?_
    refine Ev.icmp_ge (tgt := 16) (am_dt kX9_bank 4 rfl) (by decide) (fun c => ?_) (fun c => ?_)
    · have k := k.1 c
      refine Ev.iconst (v := (-1)) (am_dt kX9_bank 8 rfl) (by decide) ?_
      exact Ev.iret .int (am_dt kX9_bank 9 rfl) rfl rfl k
    · have k := k.2 c
      refine Ev.iload_n 2 (am_dt kX9_bank 5 rfl) rfl rfl ?_
      refine Ev.callS (v := mX9_isMinute) (As := [.int x2]) (st := []) okX9_isMinute wd_43 wd_454 (am_dt kX9_bank 6 rfl) rfl rfl (Nat.le_of_ble_eq_true rfl) (Nat.le_of_ble_eq_true rfl) ?_
      refine EvM.mono k (fun r2 h1 k => ?_)
      obtain ⟨v3, rfl, k⟩ := k
      show Ev w _ _ _ 13 _ [.int v3] _ _
      refine Ev.if_ne (tgt := 18) (am_dt kX9_bank 7 rfl) (by decide) (fun c => ?_) (fun c => ?_)
      · have k := k.2 c
        refine Ev.aload_n 0 (am_dt kX9_bank 10 rfl) rfl rfl ?_
        obtain ⟨f4, k⟩ := k
        refine Ev.callV (ci := 9) (v := mX9_knowDay) (As := []) (st := []) okX9_knowDay wd_438 wd_439 wd_440 (am_dt kX9_bank 11 rfl) (by decide) rfl rfl (Nat.le_of_ble_eq_true rfl) (Nat.le_of_ble_eq_true rfl) f4.1 ?_
        refine EvM.mono k (fun r6 h5 k => ?_)
        obtain ⟨rfl, k⟩ := k
        show Ev w _ _ _ 22 _ [] _ _
        refine Ev.iload_n 3 (am_dt kX9_bank 12 rfl) rfl rfl ?_
        by_cases c : x3 = 0
        · refine Ev.tableIn (off := 25) (tgt := 48) (am_dt kX9_bank 13 rfl) (by rw [c]; decide) (by rw [c]; decide) (by rw [c]; rfl) (by decide) ?_
          have k := k.1 c
          refine Ev.aload_n 0 (am_dt kX9_bank 14 rfl) rfl rfl ?_
          refine Ev.iload_n 1 (am_dt kX9_bank 15 rfl) rfl rfl ?_
          refine Ev.iload_n 2 (am_dt kX9_bank 16 rfl) rfl rfl ?_
          obtain ⟨f7, k⟩ := k
          refine Ev.callV (ci := 9) (v := mX9_heads) (As := [.int x1, .int x2]) (st := []) okX9_heads wd_455 wd_456 wd_457 (am_dt kX9_bank 17 rfl) (by decide) rfl rfl (Nat.le_of_ble_eq_true rfl) (Nat.le_of_ble_eq_true rfl) f7.1 ?_
          refine EvM.mono k (fun r9 h8 k => ?_)
          obtain ⟨v10, rfl, k⟩ := k
          show Ev w _ _ _ 54 _ [.int v10] _ _
          exact Ev.iret .int (am_dt kX9_bank 18 rfl) rfl rfl k
        have k := k.2 c
        have c0 := am_ne (n := 0) (by decide) c
        clear c
        by_cases c : x3 = 1
        · refine Ev.tableIn (off := 32) (tgt := 55) (am_dt kX9_bank 13 rfl) (by rw [c]; decide) (by rw [c]; decide) (by rw [c]; rfl) (by decide) ?_
          have k := k.1 c
          refine Ev.aload_n 0 (am_dt kX9_bank 19 rfl) rfl rfl ?_
          refine Ev.aload_n 0 (am_dt kX9_bank 20 rfl) rfl rfl ?_
          obtain ⟨f11, k⟩ := k
          refine Ev.getRe (ci := 9) (k := 2) (r := a0 + 20) (am_dt kX9_bank 21 rfl) (by decide) (by decide) rfl wd_374 f11.1 (am_L.r f11 2 rfl) (by omega) ?_
          obtain ⟨f12, k⟩ := k
          obtain ⟨f13, k⟩ := k
          refine Ev.getR (ci := 7) (k := 1) (am_dt kX9_bank 22 rfl) (by decide) (by decide) rfl wd_424 f12.1 f13 ?_
          obtain ⟨f14, k⟩ := k
          refine Ev.getRe (ci := 6) (k := 0) (r := (hR h5 (a0 + 20) 1) + 1) (am_dt kX9_bank 23 rfl) (by decide) (by decide) rfl wd_428 f14.1 (am_L.r f14 0 rfl) (by omega) ?_
          obtain ⟨f15, k⟩ := k
          refine Ev.getRe (ci := 2) (k := 3) (r := ((hR h5 (a0 + 20) 1) + 1) + 4) (am_dt kX9_bank 24 rfl) (by decide) (by decide) rfl wd_435 f15.1 (am_L.r f15 3 rfl) (by omega) ?_
          refine Ev.iload_n 1 (am_dt kX9_bank 25 rfl) rfl rfl ?_
          refine Ev.iload_n 2 (am_dt kX9_bank 26 rfl) rfl rfl ?_
          refine Ev.callV (ci := 9) (v := mX9_together) (As := [.ref (((hR h5 (a0 + 20) 1) + 1) + 4), .int x1, .int x2]) (st := []) okX9_together wd_458 wd_459 wd_460 (am_dt kX9_bank 27 rfl) (by decide) rfl rfl (Nat.le_of_ble_eq_true rfl) (Nat.le_of_ble_eq_true rfl) f11.1 ?_
          refine EvM.mono k (fun r17 h16 k => ?_)
          obtain ⟨v18, rfl, k⟩ := k
          show Ev w _ _ _ 74 _ [.int v18] _ _
          exact Ev.iret .int (am_dt kX9_bank 28 rfl) rfl rfl k
        have k := k.2 c
        have c1 := am_ne (n := 1) (by decide) c
        clear c
        by_cases c : x3 = 2
        · refine Ev.tableIn (off := 52) (tgt := 75) (am_dt kX9_bank 13 rfl) (by rw [c]; decide) (by rw [c]; decide) (by rw [c]; rfl) (by decide) ?_
          have k := k.1 c
          refine Ev.aload_n 0 (am_dt kX9_bank 29 rfl) rfl rfl ?_
          refine Ev.aload_n 0 (am_dt kX9_bank 30 rfl) rfl rfl ?_
          obtain ⟨f19, k⟩ := k
          refine Ev.getRe (ci := 9) (k := 2) (r := a0 + 20) (am_dt kX9_bank 31 rfl) (by decide) (by decide) rfl wd_374 f19.1 (am_L.r f19 2 rfl) (by omega) ?_
          obtain ⟨f20, k⟩ := k
          obtain ⟨f21, k⟩ := k
          refine Ev.getR (ci := 7) (k := 1) (am_dt kX9_bank 32 rfl) (by decide) (by decide) rfl wd_424 f20.1 f21 ?_
          obtain ⟨f22, k⟩ := k
          refine Ev.getRe (ci := 6) (k := 0) (r := (hR h5 (a0 + 20) 1) + 1) (am_dt kX9_bank 33 rfl) (by decide) (by decide) rfl wd_428 f22.1 (am_L.r f22 0 rfl) (by omega) ?_
          obtain ⟨f23, k⟩ := k
          refine Ev.getRe (ci := 2) (k := 2) (r := ((hR h5 (a0 + 20) 1) + 1) + 3) (am_dt kX9_bank 34 rfl) (by decide) (by decide) rfl wd_432 f23.1 (am_L.r f23 2 rfl) (by omega) ?_
          refine Ev.iload_n 1 (am_dt kX9_bank 35 rfl) rfl rfl ?_
          refine Ev.iload_n 2 (am_dt kX9_bank 36 rfl) rfl rfl ?_
          refine Ev.callV (ci := 9) (v := mX9_together) (As := [.ref (((hR h5 (a0 + 20) 1) + 1) + 3), .int x1, .int x2]) (st := []) okX9_together wd_458 wd_459 wd_460 (am_dt kX9_bank 37 rfl) (by decide) rfl rfl (Nat.le_of_ble_eq_true rfl) (Nat.le_of_ble_eq_true rfl) f19.1 ?_
          refine EvM.mono k (fun r25 h24 k => ?_)
          obtain ⟨v26, rfl, k⟩ := k
          show Ev w _ _ _ 94 _ [.int v26] _ _
          exact Ev.iret .int (am_dt kX9_bank 38 rfl) rfl rfl k
        have k := k.2 c
        have c2 := am_ne (n := 2) (by decide) c
        clear c
        refine Ev.tableOut (tgt := 95) (am_dt kX9_bank 13 rfl) (by omega) (by decide) ?_
        refine Ev.iconst (v := (-1)) (am_dt kX9_bank 39 rfl) (by decide) ?_
        exact Ev.iret .int (am_dt kX9_bank 40 rfl) rfl rfl k
      · have k := k.1 c
        refine Ev.iconst (v := (-1)) (am_dt kX9_bank 8 rfl) (by decide) ?_
        exact Ev.iret .int (am_dt kX9_bank 9 rfl) rfl rfl k
set_option maxRecDepth 20000 in
set_option maxHeartbeats 2000000 in
theorem bX9_send_0 {w : am_W} {d : Nat} {h : am_H} {Q : Option Value → am_H → Prop} {a0 : Nat} {x1 : Int32} {x2 : Int32}  (k : EvM w mX9_isMinute d [.int x1] h (fun r2 h1 => ∃ v3 : Int32, r2 = some (.int v3) ∧ ((v3 = 0 → (Q (some (.int ((-1)))) h1)) ∧ (¬ v3 = 0 → ((x2 < 0 → (Q (some (.int ((-1)))) h1)) ∧ (¬ x2 < 0 → ((x2 ≤ 1 → ((am_L 9 a0 h1) ∧ ((am_L 7 (a0 + 20) h1) ∧ (EvM w mX9_beginTrial d [.ref a0, .int (hI h1 (a0 + 20) 2)] h1 (fun r7 h6 => r7 = none ∧ ((am_L 9 a0 h6) ∧ (EvM w mX3_run d [.ref (a0 + 44), .int x1] h6 (fun r10 h9 => r10 = none ∧ ((am_L 9 a0 h9) ∧ (EvM w mX3_come d [.ref (a0 + 44), .int x1] h9 (fun r13 h12 => r13 = none ∧ ((am_L 9 a0 h12) ∧ (EvM w mX3_wouldRing d [.ref (a0 + 44), .int x1] h12 (fun r16 h15 => ∃ v17 : Int32, r16 = some (.int v17) ∧ ((v17 = 0 → (Ev w (am_Z w) mX9_send (d + 1) 68 [(0, .ref a0), (1, .int x1), (2, .int x2), (3, .int 1)] [] h15 Q)) ∧ (¬ v17 = 0 → ((x2 = 0 → (Q (some (.int 0)) h15)) ∧ (¬ x2 = 0 → (Q (some (.int ((-1)))) h15))))))))))))))))))) ∧ (¬ x2 ≤ 1 → (Q (some (.int ((-1)))) h1))))))))) : EvM w mX9_send (d + 1) [.ref a0, .int x1, .int x2] h Q := by
  show Ev w (am_Z w) mX9_send (d + 1) 0 [(0, .ref a0), (1, .int x1), (2, .int x2)] [] h Q
  refine Ev.iload_n 1 (am_dt kX9_send 0 rfl) rfl rfl ?_
  refine Ev.callS (v := mX9_isMinute) (As := [.int x1]) (st := []) okX9_isMinute wd_43 wd_454 (am_dt kX9_send 1 rfl) rfl rfl (Nat.le_of_ble_eq_true rfl) (Nat.le_of_ble_eq_true rfl) ?_
  refine EvM.mono k (fun r2 h1 k => ?_)
  obtain ⟨v3, rfl, k⟩ := k
  show Ev w _ _ _ 4 _ [.int v3] _ _
  refine Ev.if_eq (tgt := 16) (am_dt kX9_send 2 rfl) (by decide) (fun c => ?_) (fun c => ?_)
  · have k := k.1 c
    refine Ev.iconst (v := (-1)) (am_dt kX9_send 8 rfl) (by decide) ?_
    exact Ev.iret .int (am_dt kX9_send 9 rfl) rfl rfl k
  · have k := k.2 c
    refine Ev.iload_n 2 (am_dt kX9_send 3 rfl) rfl rfl ?_
    refine Ev.if_lt (tgt := 16) (am_dt kX9_send 4 rfl) (by decide) (fun c => ?_) (fun c => ?_)
    · have k := k.1 c
      refine Ev.iconst (v := (-1)) (am_dt kX9_send 8 rfl) (by decide) ?_
      exact Ev.iret .int (am_dt kX9_send 9 rfl) rfl rfl k
    · have k := k.2 c
      refine Ev.iload_n 2 (am_dt kX9_send 5 rfl) rfl rfl ?_
      refine Ev.iconst (v := 1) (am_dt kX9_send 6 rfl) (by decide) ?_
      refine Ev.icmp_le (tgt := 18) (am_dt kX9_send 7 rfl) (by decide) (fun c => ?_) (fun c => ?_)
      · have k := k.1 c
        refine Ev.aload_n 0 (am_dt kX9_send 10 rfl) rfl rfl ?_
        refine Ev.aload_n 0 (am_dt kX9_send 11 rfl) rfl rfl ?_
        obtain ⟨f4, k⟩ := k
        refine Ev.getRe (ci := 9) (k := 2) (r := a0 + 20) (am_dt kX9_send 12 rfl) (by decide) (by decide) rfl wd_374 f4.1 (am_L.r f4 2 rfl) (by omega) ?_
        obtain ⟨f5, k⟩ := k
        refine Ev.getI (ci := 7) (k := 2) (am_dt kX9_send 13 rfl) (by decide) (by decide) rfl wd_437 f5.1 ?_
        refine Ev.callV (ci := 9) (v := mX9_beginTrial) (As := [.int (hI h1 (a0 + 20) 2)]) (st := []) okX9_beginTrial wd_461 wd_462 wd_463 (am_dt kX9_send 14 rfl) (by decide) rfl rfl (Nat.le_of_ble_eq_true rfl) (Nat.le_of_ble_eq_true rfl) f4.1 ?_
        refine EvM.mono k (fun r7 h6 k => ?_)
        obtain ⟨rfl, k⟩ := k
        show Ev w _ _ _ 29 _ [] _ _
        refine Ev.aload_n 0 (am_dt kX9_send 15 rfl) rfl rfl ?_
        obtain ⟨f8, k⟩ := k
        refine Ev.getRe (ci := 9) (k := 5) (r := a0 + 44) (am_dt kX9_send 16 rfl) (by decide) (by decide) rfl wd_391 f8.1 (am_L.r f8 5 rfl) (by omega) ?_
        refine Ev.iload_n 1 (am_dt kX9_send 17 rfl) rfl rfl ?_
        refine Ev.callV (ci := 3) (v := mX3_run) (As := [.int x1]) (st := []) okX3_run wd_304 wd_305 wd_464 (am_dt kX9_send 18 rfl) (by decide) rfl rfl (Nat.le_of_ble_eq_true rfl) (Nat.le_of_ble_eq_true rfl) (am_L.s f8 5 rfl) ?_
        refine EvM.mono k (fun r10 h9 k => ?_)
        obtain ⟨rfl, k⟩ := k
        show Ev w _ _ _ 37 _ [] _ _
        refine Ev.aload_n 0 (am_dt kX9_send 19 rfl) rfl rfl ?_
        obtain ⟨f11, k⟩ := k
        refine Ev.getRe (ci := 9) (k := 5) (r := a0 + 44) (am_dt kX9_send 20 rfl) (by decide) (by decide) rfl wd_391 f11.1 (am_L.r f11 5 rfl) (by omega) ?_
        refine Ev.iload_n 1 (am_dt kX9_send 21 rfl) rfl rfl ?_
        refine Ev.callV (ci := 3) (v := mX3_come) (As := [.int x1]) (st := []) okX3_come wd_212 wd_213 wd_465 (am_dt kX9_send 22 rfl) (by decide) rfl rfl (Nat.le_of_ble_eq_true rfl) (Nat.le_of_ble_eq_true rfl) (am_L.s f11 5 rfl) ?_
        refine EvM.mono k (fun r13 h12 k => ?_)
        obtain ⟨rfl, k⟩ := k
        show Ev w _ _ _ 45 _ [] _ _
        refine Ev.aload_n 0 (am_dt kX9_send 23 rfl) rfl rfl ?_
        obtain ⟨f14, k⟩ := k
        refine Ev.getRe (ci := 9) (k := 5) (r := a0 + 44) (am_dt kX9_send 24 rfl) (by decide) (by decide) rfl wd_391 f14.1 (am_L.r f14 5 rfl) (by omega) ?_
        refine Ev.iload_n 1 (am_dt kX9_send 25 rfl) rfl rfl ?_
        refine Ev.callV (ci := 3) (v := mX3_wouldRing) (As := [.int x1]) (st := []) okX3_wouldRing wd_218 wd_219 wd_466 (am_dt kX9_send 26 rfl) (by decide) rfl rfl (Nat.le_of_ble_eq_true rfl) (Nat.le_of_ble_eq_true rfl) (am_L.s f14 5 rfl) ?_
        refine EvM.mono k (fun r16 h15 k => ?_)
        obtain ⟨v17, rfl, k⟩ := k
        show Ev w _ _ _ 53 _ [.int v17] _ _
        refine Ev.if_eq (tgt := 66) (am_dt kX9_send 27 rfl) (by decide) (fun c => ?_) (fun c => ?_)
        · have k := k.1 c
          refine Ev.iconst (v := 1) (am_dt kX9_send 34 rfl) (by decide) ?_
          refine Ev.istore_n (lv' := [(3, .int 1), (0, .ref a0), (1, .int x1), (2, .int x2)]) (am_dt kX9_send 35 rfl) rfl (by decide) rfl ?_
          exact Ev.sub [1, 2, 3, 0] rfl k
        · have k := k.2 c
          refine Ev.iload_n 2 (am_dt kX9_send 28 rfl) rfl rfl ?_
          refine Ev.if_ne (tgt := 64) (am_dt kX9_send 29 rfl) (by decide) (fun c => ?_) (fun c => ?_)
          · have k := k.2 c
            refine Ev.iconst (v := (-1)) (am_dt kX9_send 32 rfl) (by decide) ?_
            exact Ev.iret .int (am_dt kX9_send 33 rfl) rfl rfl k
          · have k := k.1 c
            refine Ev.iconst (v := 0) (am_dt kX9_send 30 rfl) (by decide) ?_
            refine Ev.goto (tgt := 65) (am_dt kX9_send 31 rfl) (by decide) ?_
            exact Ev.iret .int (am_dt kX9_send 33 rfl) rfl rfl k
      · have k := k.2 c
        refine Ev.iconst (v := (-1)) (am_dt kX9_send 8 rfl) (by decide) ?_
        exact Ev.iret .int (am_dt kX9_send 9 rfl) rfl rfl k
set_option maxRecDepth 20000 in
set_option maxHeartbeats 2000000 in
theorem bX9_send_68 {w : am_W} {d : Nat} {h : am_H} {Q : Option Value → am_H → Prop} {a0 : Nat} {x1 : Int32} {x2 : Int32} {x3 : Int32}  (k : (40 < x3 → (Q (some (.int ((-1)))) h)) ∧ (¬ 40 < x3 → (Ev w (am_Z w) mX9_send (d + 1) 77 [(0, .ref a0), (1, .int x1), (2, .int x2), (3, .int x3), (4, .int 0)] [] h Q))) : Ev w (am_Z w) mX9_send (d + 1) 68 [(0, .ref a0), (1, .int x1), (2, .int x2), (3, .int x3)] [] h Q := by
  refine Ev.iload_n 3 (am_dt kX9_send 36 rfl) rfl rfl ?_
  refine Ev.bipush (v := 40) (am_dt kX9_send 37 rfl) (by decide) ?_
  refine Ev.icmp_gt (tgt := 120) (am_dt kX9_send 38 rfl) (by decide) (fun c => ?_) (fun c => ?_)
  · have k := k.1 c
    refine Ev.iconst (v := (-1)) (am_dt kX9_send 61 rfl) (by decide) ?_
    exact Ev.iret .int (am_dt kX9_send 62 rfl) rfl rfl k
  · have k := k.2 c
    refine Ev.iconst (v := 0) (am_dt kX9_send 39 rfl) (by decide) ?_
    refine Ev.istore (lv' := [(4, .int 0), (0, .ref a0), (1, .int x1), (2, .int x2), (3, .int x3)]) (am_dt kX9_send 40 rfl) (by decide) rfl ?_
    exact Ev.sub [1, 2, 3, 4, 0] rfl k
set_option maxRecDepth 20000 in
set_option maxHeartbeats 2000000 in
theorem bX9_send_77 {w : am_W} {d : Nat} {h : am_H} {Q : Option Value → am_H → Prop} {a0 : Nat} {x1 : Int32} {x2 : Int32} {x3 : Int32} {x4 : Int32}  (k : (2 ≤ x4 → (Ev w (am_Z w) mX9_send (d + 1) 68 [(0, .ref a0), (1, .int x1), (2, .int x2), (3, .int (x3 + 1))] [] h Q)) ∧ (¬ 2 ≤ x4 → ((am_L 9 a0 h) ∧ (EvM w mX3_wouldRingWith d [.ref (a0 + 44), .int x4, .int x3, .int x1] h (fun r3 h2 => ∃ v4 : Int32, r3 = some (.int v4) ∧ ((v4 = 0 → (Ev w (am_Z w) mX9_send (d + 1) 77 [(0, .ref a0), (1, .int x1), (2, .int x2), (3, .int x3), (4, .int (x4 + 1))] [] h2 Q)) ∧ (¬ v4 = 0 → ((x2 = 0 → (Q (some (.int x3)) h2)) ∧ (¬ x2 = 0 → (Q (some (.int x4)) h2)))))))))) : Ev w (am_Z w) mX9_send (d + 1) 77 [(0, .ref a0), (1, .int x1), (2, .int x2), (3, .int x3), (4, .int x4)] [] h Q := by
  refine Ev.iload 4 (am_dt kX9_send 41 rfl) rfl ?_
  refine Ev.iconst (v := 2) (am_dt kX9_send 42 rfl) (by decide) ?_
  refine Ev.icmp_ge (tgt := 114) (am_dt kX9_send 43 rfl) (by decide) (fun c => ?_) (fun c => ?_)
  · have k := k.1 c
    refine Ev.iinc (v := x3 + 1) (lv' := [(3, .int (x3 + 1)), (0, .ref a0), (1, .int x1), (2, .int x2), (4, .int x4)]) 3 (am_dt kX9_send 59 rfl) rfl rfl (by decide) rfl ?_
    refine Ev.goto (tgt := 68) (am_dt kX9_send 60 rfl) (by decide) ?_
    exact Ev.sub [1, 2, 3, 0] rfl k
  · have k := k.2 c
    refine Ev.aload_n 0 (am_dt kX9_send 44 rfl) rfl rfl ?_
    obtain ⟨f1, k⟩ := k
    refine Ev.getRe (ci := 9) (k := 5) (r := a0 + 44) (am_dt kX9_send 45 rfl) (by decide) (by decide) rfl wd_391 f1.1 (am_L.r f1 5 rfl) (by omega) ?_
    refine Ev.iload 4 (am_dt kX9_send 46 rfl) rfl ?_
    refine Ev.iload_n 3 (am_dt kX9_send 47 rfl) rfl rfl ?_
    refine Ev.iload_n 1 (am_dt kX9_send 48 rfl) rfl rfl ?_
    refine Ev.callV (ci := 3) (v := mX3_wouldRingWith) (As := [.int x4, .int x3, .int x1]) (st := []) okX3_wouldRingWith wd_467 wd_468 wd_469 (am_dt kX9_send 49 rfl) (by decide) rfl rfl (Nat.le_of_ble_eq_true rfl) (Nat.le_of_ble_eq_true rfl) (am_L.s f1 5 rfl) ?_
    refine EvM.mono k (fun r3 h2 k => ?_)
    obtain ⟨v4, rfl, k⟩ := k
    show Ev w _ _ _ 94 _ [.int v4] _ _
    refine Ev.if_eq (tgt := 108) (am_dt kX9_send 50 rfl) (by decide) (fun c => ?_) (fun c => ?_)
    · have k := k.1 c
      refine Ev.iinc (v := x4 + 1) (lv' := [(4, .int (x4 + 1)), (0, .ref a0), (1, .int x1), (2, .int x2), (3, .int x3)]) 4 (am_dt kX9_send 57 rfl) rfl rfl (by decide) rfl ?_
      refine Ev.goto (tgt := 77) (am_dt kX9_send 58 rfl) (by decide) ?_
      exact Ev.sub [1, 2, 3, 4, 0] rfl k
    · have k := k.2 c
      refine Ev.iload_n 2 (am_dt kX9_send 51 rfl) rfl rfl ?_
      refine Ev.if_ne (tgt := 105) (am_dt kX9_send 52 rfl) (by decide) (fun c => ?_) (fun c => ?_)
      · have k := k.2 c
        refine Ev.iload 4 (am_dt kX9_send 55 rfl) rfl ?_
        exact Ev.iret .int (am_dt kX9_send 56 rfl) rfl rfl k
      · have k := k.1 c
        refine Ev.iload_n 3 (am_dt kX9_send 53 rfl) rfl rfl ?_
        refine Ev.goto (tgt := 107) (am_dt kX9_send 54 rfl) (by decide) ?_
        exact Ev.iret .int (am_dt kX9_send 56 rfl) rfl rfl k
set_option maxRecDepth 20000 in
set_option maxHeartbeats 2000000 in
theorem bX9_asks_0 {w : am_W} {d : Nat} {h : am_H} {Q : Option Value → am_H → Prop} {a0 : Nat} {x1 : Int32}  (k : (am_L 9 a0 h) ∧ (EvM w mX9_knowDay d [.ref a0] h (fun r3 h2 => r3 = none ∧ (Ev w (am_Z w) mX9_asks (d + 1) 11 [(0, .ref a0), (1, .int x1), (2, .int ((-1))), (3, .int 0), (4, .int 0)] [] h2 Q)))) : EvM w mX9_asks (d + 1) [.ref a0, .int x1] h Q := by
  show Ev w (am_Z w) mX9_asks (d + 1) 0 [(0, .ref a0), (1, .int x1)] [] h Q
  refine Ev.aload_n 0 (am_dt kX9_asks 0 rfl) rfl rfl ?_
  obtain ⟨f1, k⟩ := k
  refine Ev.callV (ci := 9) (v := mX9_knowDay) (As := []) (st := []) okX9_knowDay wd_438 wd_439 wd_440 (am_dt kX9_asks 1 rfl) (by decide) rfl rfl (Nat.le_of_ble_eq_true rfl) (Nat.le_of_ble_eq_true rfl) f1.1 ?_
  refine EvM.mono k (fun r3 h2 k => ?_)
  obtain ⟨rfl, k⟩ := k
  show Ev w _ _ _ 4 _ [] _ _
  refine Ev.iconst (v := (-1)) (am_dt kX9_asks 2 rfl) (by decide) ?_
  refine Ev.istore_n (lv' := [(2, .int ((-1))), (0, .ref a0), (1, .int x1)]) (am_dt kX9_asks 3 rfl) rfl (by decide) rfl ?_
  refine Ev.iconst (v := 0) (am_dt kX9_asks 4 rfl) (by decide) ?_
  refine Ev.istore_n (lv' := [(3, .int 0), (2, .int ((-1))), (0, .ref a0), (1, .int x1)]) (am_dt kX9_asks 5 rfl) rfl (by decide) rfl ?_
  refine Ev.iconst (v := 0) (am_dt kX9_asks 6 rfl) (by decide) ?_
  refine Ev.istore (lv' := [(4, .int 0), (3, .int 0), (2, .int ((-1))), (0, .ref a0), (1, .int x1)]) (am_dt kX9_asks 7 rfl) (by decide) rfl ?_
  exact Ev.sub [3, 4, 2, 1, 0] rfl k
set_option maxRecDepth 20000 in
set_option maxHeartbeats 2000000 in
theorem bX9_asks_11 {w : am_W} {d : Nat} {h : am_H} {Q : Option Value → am_H → Prop} {a0 : Nat} {x1 : Int32} {x2 : Int32} {x3 : Int32} {x4 : Int32}  (k : (am_L 9 a0 h) ∧ ((am_L 7 (a0 + 20) h) ∧ ((hR h (a0 + 20) 1 ≠ 0) ∧ ((am_L 6 (hR h (a0 + 20) 1) h) ∧ ((am_L 2 ((hR h (a0 + 20) 1) + 1) h) ∧ (((hI h ((hR h (a0 + 20) 1) + 1) 5) ≤ x4 → (Q (some (.int x2)) h)) ∧ (¬ (hI h ((hR h (a0 + 20) 1) + 1) 5) ≤ x4 → (EvM w mX9_mayTurn d [.ref a0, .int x4, .int x1] h (fun r7 h6 => ∃ v8 : Int32, r7 = some (.int v8) ∧ ((v8 = 0 → (Ev w (am_Z w) mX9_asks (d + 1) 11 [(0, .ref a0), (1, .int x1), (2, .int x2), (3, .int x3), (4, .int (x4 + 1))] [] h6 Q)) ∧ (¬ v8 = 0 → ((am_L 9 a0 h6) ∧ (EvM w mX9_gainByTurning d [.ref a0, .int x4, .int x1] h6 (fun r11 h10 => ∃ v12 : Int32, r11 = some (.int v12) ∧ ((x2 = ((-1)) → (Ev w (am_Z w) mX9_asks (d + 1) 11 [(0, .ref a0), (1, .int x1), (2, .int x4), (3, .int v12), (4, .int (x4 + 1))] [] h10 Q)) ∧ (¬ x2 = ((-1)) → ((v12 ≤ x3 → (Ev w (am_Z w) mX9_asks (d + 1) 11 [(0, .ref a0), (1, .int x1), (2, .int x2), (3, .int x3), (4, .int (x4 + 1))] [] h10 Q)) ∧ (¬ v12 ≤ x3 → (Ev w (am_Z w) mX9_asks (d + 1) 11 [(0, .ref a0), (1, .int x1), (2, .int x4), (3, .int v12), (4, .int (x4 + 1))] [] h10 Q))))))))))))))))))) : Ev w (am_Z w) mX9_asks (d + 1) 11 [(0, .ref a0), (1, .int x1), (2, .int x2), (3, .int x3), (4, .int x4)] [] h Q := by
  refine Ev.iload 4 (am_dt kX9_asks 8 rfl) rfl ?_
  refine Ev.aload_n 0 (am_dt kX9_asks 9 rfl) rfl rfl ?_
  obtain ⟨f1, k⟩ := k
  refine Ev.getRe (ci := 9) (k := 2) (r := a0 + 20) (am_dt kX9_asks 10 rfl) (by decide) (by decide) rfl wd_374 f1.1 (am_L.r f1 2 rfl) (by omega) ?_
  obtain ⟨f2, k⟩ := k
  obtain ⟨f3, k⟩ := k
  refine Ev.getR (ci := 7) (k := 1) (am_dt kX9_asks 11 rfl) (by decide) (by decide) rfl wd_424 f2.1 f3 ?_
  obtain ⟨f4, k⟩ := k
  refine Ev.getRe (ci := 6) (k := 0) (r := (hR h (a0 + 20) 1) + 1) (am_dt kX9_asks 12 rfl) (by decide) (by decide) rfl wd_428 f4.1 (am_L.r f4 0 rfl) (by omega) ?_
  obtain ⟨f5, k⟩ := k
  refine Ev.getI (ci := 2) (k := 5) (am_dt kX9_asks 13 rfl) (by decide) (by decide) rfl wd_470 f5.1 ?_
  refine Ev.icmp_ge (tgt := 71) (am_dt kX9_asks 14 rfl) (by decide) (fun c => ?_) (fun c => ?_)
  · have k := k.1 c
    refine Ev.iload_n 2 (am_dt kX9_asks 37 rfl) rfl rfl ?_
    exact Ev.iret .int (am_dt kX9_asks 38 rfl) rfl rfl k
  · have k := k.2 c
    refine Ev.aload_n 0 (am_dt kX9_asks 15 rfl) rfl rfl ?_
    refine Ev.iload 4 (am_dt kX9_asks 16 rfl) rfl ?_
    refine Ev.iload_n 1 (am_dt kX9_asks 17 rfl) rfl rfl ?_
    refine Ev.callV (ci := 9) (v := mX9_mayTurn) (As := [.int x4, .int x1]) (st := []) okX9_mayTurn wd_471 wd_472 wd_473 (am_dt kX9_asks 18 rfl) (by decide) rfl rfl (Nat.le_of_ble_eq_true rfl) (Nat.le_of_ble_eq_true rfl) f1.1 ?_
    refine EvM.mono k (fun r7 h6 k => ?_)
    obtain ⟨v8, rfl, k⟩ := k
    show Ev w _ _ _ 36 _ [.int v8] _ _
    refine Ev.if_eq (tgt := 65) (am_dt kX9_asks 19 rfl) (by decide) (fun c => ?_) (fun c => ?_)
    · have k := k.1 c
      refine Ev.iinc (v := x4 + 1) (lv' := [(4, .int (x4 + 1)), (0, .ref a0), (1, .int x1), (2, .int x2), (3, .int x3)]) 4 (am_dt kX9_asks 35 rfl) rfl rfl (by decide) rfl ?_
      refine Ev.goto (tgt := 11) (am_dt kX9_asks 36 rfl) (by decide) ?_
      exact Ev.sub [1, 2, 3, 4, 0] rfl k
    · have k := k.2 c
      refine Ev.aload_n 0 (am_dt kX9_asks 20 rfl) rfl rfl ?_
      refine Ev.iload 4 (am_dt kX9_asks 21 rfl) rfl ?_
      refine Ev.iload_n 1 (am_dt kX9_asks 22 rfl) rfl rfl ?_
      obtain ⟨f9, k⟩ := k
      refine Ev.callV (ci := 9) (v := mX9_gainByTurning) (As := [.int x4, .int x1]) (st := []) okX9_gainByTurning wd_474 wd_475 wd_476 (am_dt kX9_asks 23 rfl) (by decide) rfl rfl (Nat.le_of_ble_eq_true rfl) (Nat.le_of_ble_eq_true rfl) f9.1 ?_
      refine EvM.mono k (fun r11 h10 k => ?_)
      obtain ⟨v12, rfl, k⟩ := k
      show Ev w _ _ _ 46 _ [.int v12] _ _
      refine Ev.istore (lv' := [(5, .int v12), (0, .ref a0), (1, .int x1), (2, .int x2), (3, .int x3), (4, .int x4)]) (am_dt kX9_asks 24 rfl) (by decide) rfl ?_
      refine Ev.iload_n 3 (am_dt kX9_asks 25 rfl) rfl rfl ?_
      refine Ev.iconst (v := (-1)) (am_dt kX9_asks 26 rfl) (by decide) ?_
      refine Ev.icmp_eq (tgt := 59) (am_dt kX9_asks 27 rfl) (by decide) (fun c => ?_) (fun c => ?_)
      · have k := k.1 c
        refine Ev.iload 5 (am_dt kX9_asks 31 rfl) rfl ?_
        refine Ev.istore_n (lv' := [(2, .int x4), (5, .int v12), (0, .ref a0), (1, .int x1), (3, .int x3), (4, .int x4)]) (am_dt kX9_asks 32 rfl) rfl (by decide) rfl ?_
        refine Ev.iload 1 (am_dt kX9_asks 33 rfl) rfl ?_
        refine Ev.istore_n (lv' := [(3, .int v12), (2, .int x4), (5, .int v12), (0, .ref a0), (1, .int x1), (4, .int x4)]) (am_dt kX9_asks 34 rfl) rfl (by decide) rfl ?_
        refine Ev.iinc (v := x4 + 1) (lv' := [(4, .int (x4 + 1)), (3, .int v12), (2, .int x4), (5, .int v12), (0, .ref a0), (1, .int x1)]) 5 (am_dt kX9_asks 35 rfl) rfl rfl (by decide) rfl ?_
        refine Ev.goto (tgt := 11) (am_dt kX9_asks 36 rfl) (by decide) ?_
        exact Ev.sub [4, 5, 2, 1, 0] rfl k
      · have k := k.2 c
        refine Ev.iload 0 (am_dt kX9_asks 28 rfl) rfl ?_
        refine Ev.iload_n 4 (am_dt kX9_asks 29 rfl) rfl rfl ?_
        refine Ev.icmp_le (tgt := 65) (am_dt kX9_asks 30 rfl) (by decide) (fun c => ?_) (fun c => ?_)
        · have k := k.1 c
          refine Ev.iinc (v := x4 + 1) (lv' := [(4, .int (x4 + 1)), (5, .int v12), (0, .ref a0), (1, .int x1), (2, .int x2), (3, .int x3)]) 5 (am_dt kX9_asks 35 rfl) rfl rfl (by decide) rfl ?_
          refine Ev.goto (tgt := 11) (am_dt kX9_asks 36 rfl) (by decide) ?_
          exact Ev.sub [2, 3, 4, 5, 0] rfl k
        · have k := k.2 c
          refine Ev.iload 5 (am_dt kX9_asks 31 rfl) rfl ?_
          refine Ev.istore_n (lv' := [(2, .int x4), (5, .int v12), (0, .ref a0), (1, .int x1), (3, .int x3), (4, .int x4)]) (am_dt kX9_asks 32 rfl) rfl (by decide) rfl ?_
          refine Ev.iload 1 (am_dt kX9_asks 33 rfl) rfl ?_
          refine Ev.istore_n (lv' := [(3, .int v12), (2, .int x4), (5, .int v12), (0, .ref a0), (1, .int x1), (4, .int x4)]) (am_dt kX9_asks 34 rfl) rfl (by decide) rfl ?_
          refine Ev.iinc (v := x4 + 1) (lv' := [(4, .int (x4 + 1)), (3, .int v12), (2, .int x4), (5, .int v12), (0, .ref a0), (1, .int x1)]) 5 (am_dt kX9_asks 35 rfl) rfl rfl (by decide) rfl ?_
          refine Ev.goto (tgt := 11) (am_dt kX9_asks 36 rfl) (by decide) ?_
          exact Ev.sub [4, 5, 2, 1, 0] rfl k
set_option maxRecDepth 20000 in
set_option maxHeartbeats 2000000 in
theorem bX9_choice_0 {w : am_W} {d : Nat} {h : am_H} {Q : Option Value → am_H → Prop} {a0 : Nat} {x1 : Int32}  (k : (am_L 9 a0 h) ∧ (EvM w mX1_weigh d [.ref (a0 + 57), .ref (a0 + 20), .ref (a0 + 44)] h (fun r3 h2 => r3 = none ∧ ((x1 = 0 → ((am_L 9 a0 h2) ∧ ((am_L 1 (a0 + 57) h2) ∧ (EvM w mX9_get d [.ref (a0 + 58), .int (hI h2 (a0 + 57) 4)] h2 (fun r7 h6 => ∃ v8 : Int32, r7 = some (.int v8) ∧ (Q (some (.int v8)) h6)))))) ∧ (¬ x1 = 0 → ((x1 = 1 → ((am_L 9 a0 h2) ∧ ((am_L 1 (a0 + 57) h2) ∧ (Q (some (.int (hI h2 (a0 + 57) 4))) h2)))) ∧ (¬ x1 = 1 → (Q (some (.int ((-1)))) h2)))))))) : EvM w mX9_choice (d + 1) [.ref a0, .int x1] h Q := by
  show Ev w (am_Z w) mX9_choice (d + 1) 0 [(0, .ref a0), (1, .int x1)] [] h Q
  refine Ev.aload_n 0 (am_dt kX9_choice 0 rfl) rfl rfl ?_
  obtain ⟨f1, k⟩ := k
  refine Ev.getRe (ci := 9) (k := 6) (r := a0 + 57) (am_dt kX9_choice 1 rfl) (by decide) (by decide) rfl wd_394 f1.1 (am_L.r f1 6 rfl) (by omega) ?_
  refine Ev.aload_n 0 (am_dt kX9_choice 2 rfl) rfl rfl ?_
  refine Ev.getRe (ci := 9) (k := 2) (r := a0 + 20) (am_dt kX9_choice 3 rfl) (by decide) (by decide) rfl wd_374 f1.1 (am_L.r f1 2 rfl) (by omega) ?_
  refine Ev.aload_n 0 (am_dt kX9_choice 4 rfl) rfl rfl ?_
  refine Ev.getRe (ci := 9) (k := 5) (r := a0 + 44) (am_dt kX9_choice 5 rfl) (by decide) (by decide) rfl wd_391 f1.1 (am_L.r f1 5 rfl) (by omega) ?_
  refine Ev.callV (ci := 1) (v := mX1_weigh) (As := [.ref (a0 + 20), .ref (a0 + 44)]) (st := []) okX1_weigh wd_477 wd_478 wd_479 (am_dt kX9_choice 6 rfl) (by decide) rfl rfl (Nat.le_of_ble_eq_true rfl) (Nat.le_of_ble_eq_true rfl) (am_L.s f1 6 rfl) ?_
  refine EvM.mono k (fun r3 h2 k => ?_)
  obtain ⟨rfl, k⟩ := k
  show Ev w _ _ _ 15 _ [] _ _
  refine Ev.iload_n 1 (am_dt kX9_choice 7 rfl) rfl rfl ?_
  by_cases c : x1 = 0
  · refine Ev.lookup (off := 28) (tgt := 44) (am_dt kX9_choice 8 rfl) (by decide) (by rw [c]; rfl) (by decide) ?_
    have k := k.1 c
    refine Ev.aload_n 0 (am_dt kX9_choice 9 rfl) rfl rfl ?_
    obtain ⟨f4, k⟩ := k
    refine Ev.getRe (ci := 9) (k := 6) (r := a0 + 57) (am_dt kX9_choice 10 rfl) (by decide) (by decide) rfl wd_394 f4.1 (am_L.r f4 6 rfl) (by omega) ?_
    obtain ⟨f5, k⟩ := k
    refine Ev.getRe (ci := 1) (k := 0) (r := a0 + 58) (am_dt kX9_choice 11 rfl) (by decide) (by decide) rfl wd_480 f5.1 (am_L.r f5 0 rfl) (by omega) ?_
    refine Ev.aload_n 0 (am_dt kX9_choice 12 rfl) rfl rfl ?_
    refine Ev.getRe (ci := 9) (k := 6) (r := a0 + 57) (am_dt kX9_choice 13 rfl) (by decide) (by decide) rfl wd_394 f4.1 (am_L.r f4 6 rfl) (by omega) ?_
    refine Ev.getI (ci := 1) (k := 4) (am_dt kX9_choice 14 rfl) (by decide) (by decide) rfl wd_481 f5.1 ?_
    refine Ev.callS (v := mX9_get) (As := [.ref (a0 + 58), .int (hI h2 (a0 + 57) 4)]) (st := []) okX9_get wd_19 wd_430 (am_dt kX9_choice 15 rfl) rfl rfl (Nat.le_of_ble_eq_true rfl) (Nat.le_of_ble_eq_true rfl) ?_
    refine EvM.mono k (fun r7 h6 k => ?_)
    obtain ⟨v8, rfl, k⟩ := k
    show Ev w _ _ _ 61 _ [.int v8] _ _
    exact Ev.iret .int (am_dt kX9_choice 16 rfl) rfl rfl k
  have k := k.2 c
  have c0 := am_ne (n := 0) (by decide) c
  clear c
  by_cases c : x1 = 1
  · refine Ev.lookup (off := 46) (tgt := 62) (am_dt kX9_choice 8 rfl) (by decide) (by rw [c]; rfl) (by decide) ?_
    have k := k.1 c
    refine Ev.aload_n 0 (am_dt kX9_choice 17 rfl) rfl rfl ?_
    obtain ⟨f9, k⟩ := k
    refine Ev.getRe (ci := 9) (k := 6) (r := a0 + 57) (am_dt kX9_choice 18 rfl) (by decide) (by decide) rfl wd_394 f9.1 (am_L.r f9 6 rfl) (by omega) ?_
    obtain ⟨f10, k⟩ := k
    refine Ev.getI (ci := 1) (k := 4) (am_dt kX9_choice 19 rfl) (by decide) (by decide) rfl wd_481 f10.1 ?_
    exact Ev.iret .int (am_dt kX9_choice 20 rfl) rfl rfl k
  have k := k.2 c
  have c1 := am_ne (n := 1) (by decide) c
  clear c
  refine Ev.lookup (off := 54) (tgt := 70) (am_dt kX9_choice 8 rfl) (by decide) (by simp [Op.lookupswitch.offset, c0, c1, Ne.symm]) (by decide) ?_
  refine Ev.iconst (v := (-1)) (am_dt kX9_choice 21 rfl) (by decide) ?_
  exact Ev.iret .int (am_dt kX9_choice 22 rfl) rfl rfl k
set_option maxRecDepth 20000 in
set_option maxHeartbeats 2000000 in
theorem bX9_chosen_0 {w : am_W} {d : Nat} {h : am_H} {Q : Option Value → am_H → Prop} {a0 : Nat} {x1 : Int32}  (k : (am_L 9 a0 h) ∧ ((am_L 7 (a0 + 20) h) ∧ ((hR h (a0 + 20) 1 ≠ 0) ∧ ((x1 < 0 → (Q (some (.int ((-1)))) h)) ∧ (¬ x1 < 0 → ((am_L 6 (hR h (a0 + 20) 1) h) ∧ ((x1 < ((1 : Int32) <<< ((hI h (hR h (a0 + 20) 1) 12) &&& 31)) → (EvM w mX1_seat d [.ref (a0 + 57), .ref (hR h (a0 + 20) 1), .int x1] h (fun r6 h5 => r6 = none ∧ ((am_L 9 a0 h5) ∧ ((am_L 7 (a0 + 20) h5) ∧ ((am_L 6 (hR h (a0 + 20) 1) h5) ∧ ((am_L 1 (a0 + 57) h5) ∧ (EvM w mX3_begin d [.ref (a0 + 44), .ref (hR h (a0 + 20) 1), .int (hI h5 (a0 + 20) 2), .ref ((hR h (a0 + 20) 1) + 1), .ref (a0 + 61)] h5 (fun r12 h11 => r12 = none ∧ ((am_L 9 a0 h11) ∧ (EvM w mX3_run d [.ref (a0 + 44), .int 1440] h11 (fun r15 h14 => r15 = none ∧ ((am_L 9 a0 h14) ∧ (EvM w mX3_costWithout d [.ref (a0 + 44), .int ((-1))] h14 (fun r18 h17 => ∃ v19 : Int32, r18 = some (.int v19) ∧ (Q (some (.int v19)) h17)))))))))))))))) ∧ (¬ x1 < ((1 : Int32) <<< ((hI h (hR h (a0 + 20) 1) 12) &&& 31)) → (Q (some (.int ((-1)))) h))))))))) : EvM w mX9_chosen (d + 1) [.ref a0, .int x1] h Q := by
  show Ev w (am_Z w) mX9_chosen (d + 1) 0 [(0, .ref a0), (1, .int x1)] [] h Q
  refine Ev.aload_n 0 (am_dt kX9_chosen 0 rfl) rfl rfl ?_
  obtain ⟨f1, k⟩ := k
  refine Ev.getRe (ci := 9) (k := 2) (r := a0 + 20) (am_dt kX9_chosen 1 rfl) (by decide) (by decide) rfl wd_374 f1.1 (am_L.r f1 2 rfl) (by omega) ?_
  obtain ⟨f2, k⟩ := k
  obtain ⟨f3, k⟩ := k
  refine Ev.getR (ci := 7) (k := 1) (am_dt kX9_chosen 2 rfl) (by decide) (by decide) rfl wd_424 f2.1 f3 ?_
  refine Ev.astore_n (lv' := [(2, .ref (hR h (a0 + 20) 1)), (0, .ref a0), (1, .int x1)]) (am_dt kX9_chosen 3 rfl) rfl (by decide) rfl ?_
  refine Ev.iload_n 2 (am_dt kX9_chosen 4 rfl) rfl rfl ?_
  refine Ev.if_lt (tgt := 22) (am_dt kX9_chosen 5 rfl) (by decide) (fun c => ?_) (fun c => ?_)
  · have k := k.1 c
    refine Ev.iconst (v := (-1)) (am_dt kX9_chosen 12 rfl) (by decide) ?_
    exact Ev.iret .int (am_dt kX9_chosen 13 rfl) rfl rfl k
  · have k := k.2 c
    refine Ev.iload_n 2 (am_dt kX9_chosen 6 rfl) rfl rfl ?_
    refine Ev.iconst (v := 1) (am_dt kX9_chosen 7 rfl) (by decide) ?_
    refine Ev.aload_n 0 (am_dt kX9_chosen 8 rfl) rfl rfl ?_
    obtain ⟨f4, k⟩ := k
    refine Ev.getI (ci := 6) (k := 12) (am_dt kX9_chosen 9 rfl) (by decide) (by decide) rfl wd_482 f4.1 ?_
    refine Ev.ishl (am_dt kX9_chosen 10 rfl) ?_
    refine Ev.icmp_lt (tgt := 24) (am_dt kX9_chosen 11 rfl) (by decide) (fun c => ?_) (fun c => ?_)
    · have k := k.1 c
      refine Ev.aload_n 1 (am_dt kX9_chosen 14 rfl) rfl rfl ?_
      refine Ev.getRe (ci := 9) (k := 6) (r := a0 + 57) (am_dt kX9_chosen 15 rfl) (by decide) (by decide) rfl wd_394 f1.1 (am_L.r f1 6 rfl) (by omega) ?_
      refine Ev.aload_n 0 (am_dt kX9_chosen 16 rfl) rfl rfl ?_
      refine Ev.iload_n 2 (am_dt kX9_chosen 17 rfl) rfl rfl ?_
      refine Ev.callV (ci := 1) (v := mX1_seat) (As := [.ref (hR h (a0 + 20) 1), .int x1]) (st := []) okX1_seat wd_342 wd_343 wd_483 (am_dt kX9_chosen 18 rfl) (by decide) rfl rfl (Nat.le_of_ble_eq_true rfl) (Nat.le_of_ble_eq_true rfl) (am_L.s f1 6 rfl) ?_
      refine EvM.mono k (fun r6 h5 k => ?_)
      obtain ⟨rfl, k⟩ := k
      show Ev w _ _ _ 33 _ [] _ _
      refine Ev.aload_n 1 (am_dt kX9_chosen 19 rfl) rfl rfl ?_
      obtain ⟨f7, k⟩ := k
      refine Ev.getRe (ci := 9) (k := 5) (r := a0 + 44) (am_dt kX9_chosen 20 rfl) (by decide) (by decide) rfl wd_391 f7.1 (am_L.r f7 5 rfl) (by omega) ?_
      refine Ev.aload_n 0 (am_dt kX9_chosen 21 rfl) rfl rfl ?_
      refine Ev.aload_n 1 (am_dt kX9_chosen 22 rfl) rfl rfl ?_
      refine Ev.getRe (ci := 9) (k := 2) (r := a0 + 20) (am_dt kX9_chosen 23 rfl) (by decide) (by decide) rfl wd_374 f7.1 (am_L.r f7 2 rfl) (by omega) ?_
      obtain ⟨f8, k⟩ := k
      refine Ev.getI (ci := 7) (k := 2) (am_dt kX9_chosen 24 rfl) (by decide) (by decide) rfl wd_437 f8.1 ?_
      refine Ev.aload_n 0 (am_dt kX9_chosen 25 rfl) rfl rfl ?_
      obtain ⟨f9, k⟩ := k
      refine Ev.getRe (ci := 6) (k := 0) (r := (hR h (a0 + 20) 1) + 1) (am_dt kX9_chosen 26 rfl) (by decide) (by decide) rfl wd_428 f9.1 (am_L.r f9 0 rfl) (by omega) ?_
      refine Ev.aload_n 1 (am_dt kX9_chosen 27 rfl) rfl rfl ?_
      refine Ev.getRe (ci := 9) (k := 6) (r := a0 + 57) (am_dt kX9_chosen 28 rfl) (by decide) (by decide) rfl wd_394 f7.1 (am_L.r f7 6 rfl) (by omega) ?_
      obtain ⟨f10, k⟩ := k
      refine Ev.getRe (ci := 1) (k := 3) (r := a0 + 61) (am_dt kX9_chosen 29 rfl) (by decide) (by decide) rfl wd_484 f10.1 (am_L.r f10 3 rfl) (by omega) ?_
      refine Ev.callV (ci := 3) (v := mX3_begin) (As := [.ref (hR h (a0 + 20) 1), .int (hI h5 (a0 + 20) 2), .ref ((hR h (a0 + 20) 1) + 1), .ref (a0 + 61)]) (st := []) okX3_begin wd_301 wd_302 wd_485 (am_dt kX9_chosen 30 rfl) (by decide) rfl rfl (Nat.le_of_ble_eq_true rfl) (Nat.le_of_ble_eq_true rfl) (am_L.s f7 5 rfl) ?_
      refine EvM.mono k (fun r12 h11 k => ?_)
      obtain ⟨rfl, k⟩ := k
      show Ev w _ _ _ 59 _ [] _ _
      refine Ev.aload_n 1 (am_dt kX9_chosen 31 rfl) rfl rfl ?_
      obtain ⟨f13, k⟩ := k
      refine Ev.getRe (ci := 9) (k := 5) (r := a0 + 44) (am_dt kX9_chosen 32 rfl) (by decide) (by decide) rfl wd_391 f13.1 (am_L.r f13 5 rfl) (by omega) ?_
      refine Ev.sipush (v := 1440) (am_dt kX9_chosen 33 rfl) (by decide) ?_
      refine Ev.callV (ci := 3) (v := mX3_run) (As := [.int 1440]) (st := []) okX3_run wd_304 wd_305 wd_464 (am_dt kX9_chosen 34 rfl) (by decide) rfl rfl (Nat.le_of_ble_eq_true rfl) (Nat.le_of_ble_eq_true rfl) (am_L.s f13 5 rfl) ?_
      refine EvM.mono k (fun r15 h14 k => ?_)
      obtain ⟨rfl, k⟩ := k
      show Ev w _ _ _ 69 _ [] _ _
      refine Ev.aload_n 1 (am_dt kX9_chosen 35 rfl) rfl rfl ?_
      obtain ⟨f16, k⟩ := k
      refine Ev.getRe (ci := 9) (k := 5) (r := a0 + 44) (am_dt kX9_chosen 36 rfl) (by decide) (by decide) rfl wd_391 f16.1 (am_L.r f16 5 rfl) (by omega) ?_
      refine Ev.iconst (v := (-1)) (am_dt kX9_chosen 37 rfl) (by decide) ?_
      refine Ev.callV (ci := 3) (v := mX3_costWithout) (As := [.int ((-1))]) (st := []) okX3_costWithout wd_349 wd_350 wd_447 (am_dt kX9_chosen 38 rfl) (by decide) rfl rfl (Nat.le_of_ble_eq_true rfl) (Nat.le_of_ble_eq_true rfl) (am_L.s f16 5 rfl) ?_
      refine EvM.mono k (fun r18 h17 k => ?_)
      obtain ⟨v19, rfl, k⟩ := k
      show Ev w _ _ _ 77 _ [.int v19] _ _
      exact Ev.iret .int (am_dt kX9_chosen 39 rfl) rfl rfl k
    · have k := k.2 c
      refine Ev.iconst (v := (-1)) (am_dt kX9_chosen 12 rfl) (by decide) ?_
      exact Ev.iret .int (am_dt kX9_chosen 13 rfl) rfl rfl k
set_option maxRecDepth 20000 in
set_option maxHeartbeats 2000000 in
theorem bX9_rests_0 {w : am_W} {d : Nat} {h : am_H} {Q : Option Value → am_H → Prop} {a0 : Nat}  (k : (am_L 9 a0 h) ∧ (EvM w mX1_weigh d [.ref (a0 + 57), .ref (a0 + 20), .ref (a0 + 44)] h (fun r3 h2 => r3 = none ∧ ((am_L 9 a0 h2) ∧ ((am_L 1 (a0 + 57) h2) ∧ (Q (some (.int (hI h2 (a0 + 57) 5))) h2)))))) : EvM w mX9_rests (d + 1) [.ref a0] h Q := by
  show Ev w (am_Z w) mX9_rests (d + 1) 0 [(0, .ref a0)] [] h Q
  refine Ev.aload_n 0 (am_dt kX9_rests 0 rfl) rfl rfl ?_
  obtain ⟨f1, k⟩ := k
  refine Ev.getRe (ci := 9) (k := 6) (r := a0 + 57) (am_dt kX9_rests 1 rfl) (by decide) (by decide) rfl wd_394 f1.1 (am_L.r f1 6 rfl) (by omega) ?_
  refine Ev.aload_n 0 (am_dt kX9_rests 2 rfl) rfl rfl ?_
  refine Ev.getRe (ci := 9) (k := 2) (r := a0 + 20) (am_dt kX9_rests 3 rfl) (by decide) (by decide) rfl wd_374 f1.1 (am_L.r f1 2 rfl) (by omega) ?_
  refine Ev.aload_n 0 (am_dt kX9_rests 4 rfl) rfl rfl ?_
  refine Ev.getRe (ci := 9) (k := 5) (r := a0 + 44) (am_dt kX9_rests 5 rfl) (by decide) (by decide) rfl wd_391 f1.1 (am_L.r f1 5 rfl) (by omega) ?_
  refine Ev.callV (ci := 1) (v := mX1_weigh) (As := [.ref (a0 + 20), .ref (a0 + 44)]) (st := []) okX1_weigh wd_477 wd_478 wd_479 (am_dt kX9_rests 6 rfl) (by decide) rfl rfl (Nat.le_of_ble_eq_true rfl) (Nat.le_of_ble_eq_true rfl) (am_L.s f1 6 rfl) ?_
  refine EvM.mono k (fun r3 h2 k => ?_)
  obtain ⟨rfl, k⟩ := k
  show Ev w _ _ _ 15 _ [] _ _
  refine Ev.aload_n 0 (am_dt kX9_rests 7 rfl) rfl rfl ?_
  obtain ⟨f4, k⟩ := k
  refine Ev.getRe (ci := 9) (k := 6) (r := a0 + 57) (am_dt kX9_rests 8 rfl) (by decide) (by decide) rfl wd_394 f4.1 (am_L.r f4 6 rfl) (by omega) ?_
  obtain ⟨f5, k⟩ := k
  refine Ev.getI (ci := 1) (k := 5) (am_dt kX9_rests 9 rfl) (by decide) (by decide) rfl wd_486 f5.1 ?_
  exact Ev.iret .int (am_dt kX9_rests 10 rfl) rfl rfl k
set_option maxRecDepth 20000 in
set_option maxHeartbeats 2000000 in
theorem bX9_rest_0 {w : am_W} {d : Nat} {h : am_H} {Q : Option Value → am_H → Prop} {a0 : Nat} {x1 : Int32}  (k : (am_L 9 a0 h) ∧ (EvM w mX1_weigh d [.ref (a0 + 57), .ref (a0 + 20), .ref (a0 + 44)] h (fun r3 h2 => r3 = none ∧ ((x1 < 0 → (Q (some (.int ((-1)))) h2)) ∧ (¬ x1 < 0 → ((am_L 9 a0 h2) ∧ ((am_L 1 (a0 + 57) h2) ∧ ((x1 < (hI h2 (a0 + 57) 5) → (EvM w mX9_get d [.ref (a0 + 60), .int x1] h2 (fun r7 h6 => ∃ v8 : Int32, r7 = some (.int v8) ∧ (Q (some (.int v8)) h6)))) ∧ (¬ x1 < (hI h2 (a0 + 57) 5) → (Q (some (.int ((-1)))) h2)))))))))) : EvM w mX9_rest (d + 1) [.ref a0, .int x1] h Q := by
  show Ev w (am_Z w) mX9_rest (d + 1) 0 [(0, .ref a0), (1, .int x1)] [] h Q
  refine Ev.aload_n 0 (am_dt kX9_rest 0 rfl) rfl rfl ?_
  obtain ⟨f1, k⟩ := k
  refine Ev.getRe (ci := 9) (k := 6) (r := a0 + 57) (am_dt kX9_rest 1 rfl) (by decide) (by decide) rfl wd_394 f1.1 (am_L.r f1 6 rfl) (by omega) ?_
  refine Ev.aload_n 0 (am_dt kX9_rest 2 rfl) rfl rfl ?_
  refine Ev.getRe (ci := 9) (k := 2) (r := a0 + 20) (am_dt kX9_rest 3 rfl) (by decide) (by decide) rfl wd_374 f1.1 (am_L.r f1 2 rfl) (by omega) ?_
  refine Ev.aload_n 0 (am_dt kX9_rest 4 rfl) rfl rfl ?_
  refine Ev.getRe (ci := 9) (k := 5) (r := a0 + 44) (am_dt kX9_rest 5 rfl) (by decide) (by decide) rfl wd_391 f1.1 (am_L.r f1 5 rfl) (by omega) ?_
  refine Ev.callV (ci := 1) (v := mX1_weigh) (As := [.ref (a0 + 20), .ref (a0 + 44)]) (st := []) okX1_weigh wd_477 wd_478 wd_479 (am_dt kX9_rest 6 rfl) (by decide) rfl rfl (Nat.le_of_ble_eq_true rfl) (Nat.le_of_ble_eq_true rfl) (am_L.s f1 6 rfl) ?_
  refine EvM.mono k (fun r3 h2 k => ?_)
  obtain ⟨rfl, k⟩ := k
  show Ev w _ _ _ 15 _ [] _ _
  refine Ev.iload_n 1 (am_dt kX9_rest 7 rfl) rfl rfl ?_
  refine Ev.if_lt (tgt := 30) (am_dt kX9_rest 8 rfl) (by decide) (fun c => ?_) (fun c => ?_)
  · have k := k.1 c
    refine Ev.iconst (v := (-1)) (am_dt kX9_rest 14 rfl) (by decide) ?_
    refine Ev.goto (tgt := 45) (am_dt kX9_rest 15 rfl) (by decide) ?_
    exact Ev.iret .int (am_dt kX9_rest 21 rfl) rfl rfl k
  · have k := k.2 c
    refine Ev.iload_n 1 (am_dt kX9_rest 9 rfl) rfl rfl ?_
    refine Ev.aload_n 0 (am_dt kX9_rest 10 rfl) rfl rfl ?_
    obtain ⟨f4, k⟩ := k
    refine Ev.getRe (ci := 9) (k := 6) (r := a0 + 57) (am_dt kX9_rest 11 rfl) (by decide) (by decide) rfl wd_394 f4.1 (am_L.r f4 6 rfl) (by omega) ?_
    obtain ⟨f5, k⟩ := k
    refine Ev.getI (ci := 1) (k := 5) (am_dt kX9_rest 12 rfl) (by decide) (by decide) rfl wd_486 f5.1 ?_
    refine Ev.icmp_lt (tgt := 34) (am_dt kX9_rest 13 rfl) (by decide) (fun c => ?_) (fun c => ?_)
    · have k := k.1 c
      refine Ev.aload_n 0 (am_dt kX9_rest 16 rfl) rfl rfl ?_
      refine Ev.getRe (ci := 9) (k := 6) (r := a0 + 57) (am_dt kX9_rest 17 rfl) (by decide) (by decide) rfl wd_394 f4.1 (am_L.r f4 6 rfl) (by omega) ?_
      refine Ev.getRe (ci := 1) (k := 2) (r := a0 + 60) (am_dt kX9_rest 18 rfl) (by decide) (by decide) rfl wd_487 f5.1 (am_L.r f5 2 rfl) (by omega) ?_
      refine Ev.iload_n 1 (am_dt kX9_rest 19 rfl) rfl rfl ?_
      refine Ev.callS (v := mX9_get) (As := [.ref (a0 + 60), .int x1]) (st := []) okX9_get wd_19 wd_430 (am_dt kX9_rest 20 rfl) rfl rfl (Nat.le_of_ble_eq_true rfl) (Nat.le_of_ble_eq_true rfl) ?_
      refine EvM.mono k (fun r7 h6 k => ?_)
      obtain ⟨v8, rfl, k⟩ := k
      show Ev w _ _ _ 45 _ [.int v8] _ _
      exact Ev.iret .int (am_dt kX9_rest 21 rfl) rfl rfl k
    · have k := k.2 c
      refine Ev.iconst (v := (-1)) (am_dt kX9_rest 14 rfl) (by decide) ?_
      refine Ev.goto (tgt := 45) (am_dt kX9_rest 15 rfl) (by decide) ?_
      exact Ev.iret .int (am_dt kX9_rest 21 rfl) rfl rfl k
set_option maxRecDepth 20000 in
set_option maxHeartbeats 2000000 in
theorem bX9_tell_0 {w : am_W} {d : Nat} {h : am_H} {Q : Option Value → am_H → Prop} {a0 : Nat} {x1 : Int32}  (k : (am_L 9 a0 h) ∧ (EvM w mX7_addTold d [.ref (a0 + 20), .int x1] h (fun r3 h2 => ∃ v4 : Int32, r3 = some (.int v4) ∧ ((v4 = 0 → (Q (some (.int ((-1)))) h2)) ∧ (¬ v4 = 0 → ((am_L 9 a0 h2) ∧ ((am_L 7 (a0 + 20) h2) ∧ (Q (some (.int (hI h2 (a0 + 20) 3))) h2)))))))) : EvM w mX9_tell (d + 1) [.ref a0, .int x1] h Q := by
  show Ev w (am_Z w) mX9_tell (d + 1) 0 [(0, .ref a0), (1, .int x1)] [] h Q
  refine Ev.aload_n 0 (am_dt kX9_tell 0 rfl) rfl rfl ?_
  obtain ⟨f1, k⟩ := k
  refine Ev.getRe (ci := 9) (k := 2) (r := a0 + 20) (am_dt kX9_tell 1 rfl) (by decide) (by decide) rfl wd_374 f1.1 (am_L.r f1 2 rfl) (by omega) ?_
  refine Ev.iload_n 1 (am_dt kX9_tell 2 rfl) rfl rfl ?_
  refine Ev.callV (ci := 7) (v := mX7_addTold) (As := [.int x1]) (st := []) okX7_addTold wd_488 wd_489 wd_490 (am_dt kX9_tell 3 rfl) (by decide) rfl rfl (Nat.le_of_ble_eq_true rfl) (Nat.le_of_ble_eq_true rfl) (am_L.s f1 2 rfl) ?_
  refine EvM.mono k (fun r3 h2 k => ?_)
  obtain ⟨v4, rfl, k⟩ := k
  show Ev w _ _ _ 8 _ [.int v4] _ _
  refine Ev.if_eq (tgt := 21) (am_dt kX9_tell 4 rfl) (by decide) (fun c => ?_) (fun c => ?_)
  · have k := k.1 c
    refine Ev.iconst (v := (-1)) (am_dt kX9_tell 9 rfl) (by decide) ?_
    exact Ev.iret .int (am_dt kX9_tell 10 rfl) rfl rfl k
  · have k := k.2 c
    refine Ev.aload_n 0 (am_dt kX9_tell 5 rfl) rfl rfl ?_
    obtain ⟨f5, k⟩ := k
    refine Ev.getRe (ci := 9) (k := 2) (r := a0 + 20) (am_dt kX9_tell 6 rfl) (by decide) (by decide) rfl wd_374 f5.1 (am_L.r f5 2 rfl) (by omega) ?_
    obtain ⟨f6, k⟩ := k
    refine Ev.getI (ci := 7) (k := 3) (am_dt kX9_tell 7 rfl) (by decide) (by decide) rfl wd_491 f6.1 ?_
    refine Ev.goto (tgt := 22) (am_dt kX9_tell 8 rfl) (by decide) ?_
    exact Ev.iret .int (am_dt kX9_tell 10 rfl) rfl rfl k
set_option maxRecDepth 20000 in
set_option maxHeartbeats 2000000 in
theorem bX9_clear_0 {w : am_W} {d : Nat} {h : am_H} {Q : Option Value → am_H → Prop} {a0 : Nat}  (k : (am_L 9 a0 h) ∧ ((am_L 7 (a0 + 20) h) ∧ (∀ h3 : am_H, h3 = sI h (a0 + 20) 3 0 → (Q (some (.int 1)) h3)))) : EvM w mX9_clear d [.ref a0] h Q := by
  show Ev w (am_Z w) mX9_clear d 0 [(0, .ref a0)] [] h Q
  refine Ev.aload_n 0 (am_dt kX9_clear 0 rfl) rfl rfl ?_
  obtain ⟨f1, k⟩ := k
  refine Ev.getRe (ci := 9) (k := 2) (r := a0 + 20) (am_dt kX9_clear 1 rfl) (by decide) (by decide) rfl wd_374 f1.1 (am_L.r f1 2 rfl) (by omega) ?_
  refine Ev.iconst (v := 0) (am_dt kX9_clear 2 rfl) (by decide) ?_
  obtain ⟨f2, k⟩ := k
  refine Ev.putI' (ci := 7) (k := 3) (am_dt kX9_clear 3 rfl) (by decide) (by decide) wd_491 rfl rfl rfl rfl f2.1 (fun h3 eh3 => ?_)
  have k := k h3 eh3
  have f1 := am_LsI eh3 f1
  have f2 := am_LsI eh3 f2
  refine Ev.iconst (v := 1) (am_dt kX9_clear 4 rfl) (by decide) ?_
  exact Ev.iret .boolean (am_dt kX9_clear 5 rfl) rfl rfl k
set_option maxRecDepth 20000 in
set_option maxHeartbeats 2000000 in
theorem bX9_judged_0 {w : am_W} {d : Nat} {h : am_H} {Q : Option Value → am_H → Prop} {a0 : Nat} {x1 : Int32}  (k : (x1 < 0 → (Q (some (.int ((-1)))) h)) ∧ (¬ x1 < 0 → ((x1 ≤ 1 → ((am_L 9 a0 h) ∧ ((am_L 7 (a0 + 20) h) ∧ (EvM w mX9_beginTrial d [.ref a0, .int (hI h (a0 + 20) 2)] h (fun r4 h3 => r4 = none ∧ ((am_L 9 a0 h3) ∧ ((am_L 7 (a0 + 20) h3) ∧ (EvM w mX3_misjudged d [.ref (a0 + 44), .ref (a0 + 21), .int (hI h3 (a0 + 20) 3)] h3 (fun r8 h7 => ∃ v9 : Int32, r8 = some (.int v9) ∧ ((v9 = ((-1)) → (Q (some (.int v9)) h7)) ∧ (¬ v9 = ((-1)) → ((x1 = 0 → (Q (some (.int v9)) h7)) ∧ (¬ x1 = 0 → ((am_L 9 a0 h7) ∧ (EvM w mX7_isTold d [.ref (a0 + 20), .int v9] h7 (fun r12 h11 => ∃ v13 : Int32, r12 = some (.int v13) ∧ ((v13 = 0 → (Q (some (.int 2)) h11)) ∧ (¬ v13 = 0 → (Q (some (.int 1)) h11))))))))))))))))))) ∧ (¬ x1 ≤ 1 → (Q (some (.int ((-1)))) h))))) : EvM w mX9_judged (d + 1) [.ref a0, .int x1] h Q := by
  show Ev w (am_Z w) mX9_judged (d + 1) 0 [(0, .ref a0), (1, .int x1)] [] h Q
  refine Ev.iload_n 1 (am_dt kX9_judged 0 rfl) rfl rfl ?_
  refine Ev.if_lt (tgt := 9) (am_dt kX9_judged 1 rfl) (by decide) (fun c => ?_) (fun c => ?_)
  · have k := k.1 c
    refine Ev.iconst (v := (-1)) (am_dt kX9_judged 5 rfl) (by decide) ?_
    exact Ev.iret .int (am_dt kX9_judged 6 rfl) rfl rfl k
  · have k := k.2 c
    refine Ev.iload_n 1 (am_dt kX9_judged 2 rfl) rfl rfl ?_
    refine Ev.iconst (v := 1) (am_dt kX9_judged 3 rfl) (by decide) ?_
    refine Ev.icmp_le (tgt := 11) (am_dt kX9_judged 4 rfl) (by decide) (fun c => ?_) (fun c => ?_)
    · have k := k.1 c
      refine Ev.aload_n 0 (am_dt kX9_judged 7 rfl) rfl rfl ?_
      refine Ev.aload_n 0 (am_dt kX9_judged 8 rfl) rfl rfl ?_
      obtain ⟨f1, k⟩ := k
      refine Ev.getRe (ci := 9) (k := 2) (r := a0 + 20) (am_dt kX9_judged 9 rfl) (by decide) (by decide) rfl wd_374 f1.1 (am_L.r f1 2 rfl) (by omega) ?_
      obtain ⟨f2, k⟩ := k
      refine Ev.getI (ci := 7) (k := 2) (am_dt kX9_judged 10 rfl) (by decide) (by decide) rfl wd_437 f2.1 ?_
      refine Ev.callV (ci := 9) (v := mX9_beginTrial) (As := [.int (hI h (a0 + 20) 2)]) (st := []) okX9_beginTrial wd_461 wd_462 wd_463 (am_dt kX9_judged 11 rfl) (by decide) rfl rfl (Nat.le_of_ble_eq_true rfl) (Nat.le_of_ble_eq_true rfl) f1.1 ?_
      refine EvM.mono k (fun r4 h3 k => ?_)
      obtain ⟨rfl, k⟩ := k
      show Ev w _ _ _ 22 _ [] _ _
      refine Ev.aload_n 0 (am_dt kX9_judged 12 rfl) rfl rfl ?_
      obtain ⟨f5, k⟩ := k
      refine Ev.getRe (ci := 9) (k := 5) (r := a0 + 44) (am_dt kX9_judged 13 rfl) (by decide) (by decide) rfl wd_391 f5.1 (am_L.r f5 5 rfl) (by omega) ?_
      refine Ev.aload_n 0 (am_dt kX9_judged 14 rfl) rfl rfl ?_
      refine Ev.getRe (ci := 9) (k := 2) (r := a0 + 20) (am_dt kX9_judged 15 rfl) (by decide) (by decide) rfl wd_374 f5.1 (am_L.r f5 2 rfl) (by omega) ?_
      obtain ⟨f6, k⟩ := k
      refine Ev.getRe (ci := 7) (k := 0) (r := a0 + 21) (am_dt kX9_judged 16 rfl) (by decide) (by decide) rfl wd_492 f6.1 (am_L.r f6 0 rfl) (by omega) ?_
      refine Ev.aload_n 0 (am_dt kX9_judged 17 rfl) rfl rfl ?_
      refine Ev.getRe (ci := 9) (k := 2) (r := a0 + 20) (am_dt kX9_judged 18 rfl) (by decide) (by decide) rfl wd_374 f5.1 (am_L.r f5 2 rfl) (by omega) ?_
      refine Ev.getI (ci := 7) (k := 3) (am_dt kX9_judged 19 rfl) (by decide) (by decide) rfl wd_491 f6.1 ?_
      refine Ev.callV (ci := 3) (v := mX3_misjudged) (As := [.ref (a0 + 21), .int (hI h3 (a0 + 20) 3)]) (st := []) okX3_misjudged wd_493 wd_494 wd_495 (am_dt kX9_judged 20 rfl) (by decide) rfl rfl (Nat.le_of_ble_eq_true rfl) (Nat.le_of_ble_eq_true rfl) (am_L.s f5 5 rfl) ?_
      refine EvM.mono k (fun r8 h7 k => ?_)
      obtain ⟨v9, rfl, k⟩ := k
      show Ev w _ _ _ 43 _ [.int v9] _ _
      refine Ev.istore_n (lv' := [(2, .int v9), (0, .ref a0), (1, .int x1)]) (am_dt kX9_judged 21 rfl) rfl (by decide) rfl ?_
      refine Ev.iload_n 0 (am_dt kX9_judged 22 rfl) rfl rfl ?_
      refine Ev.iconst (v := (-1)) (am_dt kX9_judged 23 rfl) (by decide) ?_
      refine Ev.icmp_eq (tgt := 53) (am_dt kX9_judged 24 rfl) (by decide) (fun c => ?_) (fun c => ?_)
      · have k := k.1 c
        refine Ev.iload_n 0 (am_dt kX9_judged 27 rfl) rfl rfl ?_
        exact Ev.iret .int (am_dt kX9_judged 28 rfl) rfl rfl k
      · have k := k.2 c
        refine Ev.iload_n 2 (am_dt kX9_judged 25 rfl) rfl rfl ?_
        refine Ev.if_ne (tgt := 55) (am_dt kX9_judged 26 rfl) (by decide) (fun c => ?_) (fun c => ?_)
        · have k := k.2 c
          refine Ev.aload_n 1 (am_dt kX9_judged 29 rfl) rfl rfl ?_
          obtain ⟨f10, k⟩ := k
          refine Ev.getRe (ci := 9) (k := 2) (r := a0 + 20) (am_dt kX9_judged 30 rfl) (by decide) (by decide) rfl wd_374 f10.1 (am_L.r f10 2 rfl) (by omega) ?_
          refine Ev.iload_n 0 (am_dt kX9_judged 31 rfl) rfl rfl ?_
          refine Ev.callV (ci := 7) (v := mX7_isTold) (As := [.int v9]) (st := []) okX7_isTold wd_496 wd_497 wd_498 (am_dt kX9_judged 32 rfl) (by decide) rfl rfl (Nat.le_of_ble_eq_true rfl) (Nat.le_of_ble_eq_true rfl) (am_L.s f10 2 rfl) ?_
          refine EvM.mono k (fun r12 h11 k => ?_)
          obtain ⟨v13, rfl, k⟩ := k
          show Ev w _ _ _ 63 _ [.int v13] _ _
          refine Ev.if_eq (tgt := 70) (am_dt kX9_judged 33 rfl) (by decide) (fun c => ?_) (fun c => ?_)
          · have k := k.1 c
            refine Ev.iconst (v := 2) (am_dt kX9_judged 36 rfl) (by decide) ?_
            exact Ev.iret .int (am_dt kX9_judged 37 rfl) rfl rfl k
          · have k := k.2 c
            refine Ev.iconst (v := 1) (am_dt kX9_judged 34 rfl) (by decide) ?_
            refine Ev.goto (tgt := 71) (am_dt kX9_judged 35 rfl) (by decide) ?_
            exact Ev.iret .int (am_dt kX9_judged 37 rfl) rfl rfl k
        · have k := k.1 c
          refine Ev.iload_n 0 (am_dt kX9_judged 27 rfl) rfl rfl ?_
          exact Ev.iret .int (am_dt kX9_judged 28 rfl) rfl rfl k
    · have k := k.2 c
      refine Ev.iconst (v := (-1)) (am_dt kX9_judged 5 rfl) (by decide) ?_
      exact Ev.iret .int (am_dt kX9_judged 6 rfl) rfl rfl k
set_option maxRecDepth 20000 in
set_option maxHeartbeats 2000000 in
theorem bX9_likely_0 {w : am_W} {d : Nat} {h : am_H} {Q : Option Value → am_H → Prop} {a0 : Nat} {x1 : Int32} {x2 : Int32}  (k : (x1 < 1 → (Q (some (.long ((-1)))) h)) ∧ (¬ x1 < 1 → ((16 < x1 → (Q (some (.long ((-1)))) h)) ∧ (¬ 16 < x1 → ((x2 < 0 → (Q (some (.long ((-1)))) h)) ∧ (¬ x2 < 0 → ((x2 ≤ 1 → ((am_L 9 a0 h) ∧ (EvM w mX9_levels d [.ref a0, .int x1, .int 0] h (fun r3 h2 => ∃ v4 : Int64, r3 = some (.long v4) ∧ ((am_L 9 a0 h2) ∧ ((am_L 7 (a0 + 20) h2) ∧ ((hR h2 (a0 + 20) 1 ≠ 0) ∧ ((am_L 6 (hR h2 (a0 + 20) 1) h2) ∧ (EvM w mX9_power d [.long ((Int32.toInt64 (hI h2 (hR h2 (a0 + 20) 1) 10)) * (Int32.toInt64 (hI h2 (hR h2 (a0 + 20) 1) 10))), .int (x1 / 2)] h2 (fun r10 h9 => ∃ v11 : Int64, r10 = some (.long v11) ∧ ((x2 = 0 → (EvM w mX9_lowest d [.long v4, .long v4, .long v11] h9 (fun r13 h12 => ∃ v14 : Int64, r13 = some (.long v14) ∧ (Q (some (.long v14)) h12)))) ∧ (¬ x2 = 0 → (EvM w mX9_lowest d [.long v11, .long v4, .long v11] h9 (fun r16 h15 => ∃ v17 : Int64, r16 = some (.long v17) ∧ (Q (some (.long v17)) h15))))))))))))))) ∧ (¬ x2 ≤ 1 → (Q (some (.long ((-1)))) h))))))))) : EvM w mX9_likely (d + 1) [.ref a0, .int x1, .int x2] h Q := by
  show Ev w (am_Z w) mX9_likely (d + 1) 0 [(0, .ref a0), (1, .int x1), (2, .int x2)] [] h Q
  refine Ev.iload_n 1 (am_dt kX9_likely 0 rfl) rfl rfl ?_
  refine Ev.iconst (v := 1) (am_dt kX9_likely 1 rfl) (by decide) ?_
  refine Ev.icmp_lt (tgt := 20) (am_dt kX9_likely 2 rfl) (by decide) (fun c => ?_) (fun c => ?_)
  · have k := k.1 c
    refine Ev.ldc2 (v := (-1)) (am_dt kX9_likely 11 rfl) wd_499 ?_
    exact Ev.lret (am_dt kX9_likely 12 rfl) rfl k
  · have k := k.2 c
    refine Ev.iload_n 1 (am_dt kX9_likely 3 rfl) rfl rfl ?_
    refine Ev.bipush (v := 16) (am_dt kX9_likely 4 rfl) (by decide) ?_
    refine Ev.icmp_gt (tgt := 20) (am_dt kX9_likely 5 rfl) (by decide) (fun c => ?_) (fun c => ?_)
    · have k := k.1 c
      refine Ev.ldc2 (v := (-1)) (am_dt kX9_likely 11 rfl) wd_499 ?_
      exact Ev.lret (am_dt kX9_likely 12 rfl) rfl k
    · have k := k.2 c
      refine Ev.iload_n 2 (am_dt kX9_likely 6 rfl) rfl rfl ?_
      refine Ev.if_lt (tgt := 20) (am_dt kX9_likely 7 rfl) (by decide) (fun c => ?_) (fun c => ?_)
      · have k := k.1 c
        refine Ev.ldc2 (v := (-1)) (am_dt kX9_likely 11 rfl) wd_499 ?_
        exact Ev.lret (am_dt kX9_likely 12 rfl) rfl k
      · have k := k.2 c
        refine Ev.iload_n 2 (am_dt kX9_likely 8 rfl) rfl rfl ?_
        refine Ev.iconst (v := 1) (am_dt kX9_likely 9 rfl) (by decide) ?_
        refine Ev.icmp_le (tgt := 24) (am_dt kX9_likely 10 rfl) (by decide) (fun c => ?_) (fun c => ?_)
        · have k := k.1 c
          refine Ev.aload_n 0 (am_dt kX9_likely 13 rfl) rfl rfl ?_
          refine Ev.iload_n 1 (am_dt kX9_likely 14 rfl) rfl rfl ?_
          refine Ev.iconst (v := 0) (am_dt kX9_likely 15 rfl) (by decide) ?_
          obtain ⟨f1, k⟩ := k
          refine Ev.callV (ci := 9) (v := mX9_levels) (As := [.int x1, .int 0]) (st := []) okX9_levels wd_500 wd_501 wd_502 (am_dt kX9_likely 16 rfl) (by decide) rfl rfl (Nat.le_of_ble_eq_true rfl) (Nat.le_of_ble_eq_true rfl) f1.1 ?_
          refine EvM.mono k (fun r3 h2 k => ?_)
          obtain ⟨v4, rfl, k⟩ := k
          show Ev w _ _ _ 30 _ [.long v4] _ _
          refine Ev.lstore_n (lv' := [(3, .long v4), (0, .ref a0), (1, .int x1), (2, .int x2)]) (am_dt kX9_likely 17 rfl) rfl (by decide) rfl ?_
          refine Ev.aload_n 1 (am_dt kX9_likely 18 rfl) rfl rfl ?_
          obtain ⟨f5, k⟩ := k
          refine Ev.getRe (ci := 9) (k := 2) (r := a0 + 20) (am_dt kX9_likely 19 rfl) (by decide) (by decide) rfl wd_374 f5.1 (am_L.r f5 2 rfl) (by omega) ?_
          obtain ⟨f6, k⟩ := k
          obtain ⟨f7, k⟩ := k
          refine Ev.getR (ci := 7) (k := 1) (am_dt kX9_likely 20 rfl) (by decide) (by decide) rfl wd_424 f6.1 f7 ?_
          obtain ⟨f8, k⟩ := k
          refine Ev.getI (ci := 6) (k := 10) (am_dt kX9_likely 21 rfl) (by decide) (by decide) rfl wd_503 f8.1 ?_
          refine Ev.i2l (am_dt kX9_likely 22 rfl) ?_
          refine Ev.aload_n 1 (am_dt kX9_likely 23 rfl) rfl rfl ?_
          refine Ev.getRe (ci := 9) (k := 2) (r := a0 + 20) (am_dt kX9_likely 24 rfl) (by decide) (by decide) rfl wd_374 f5.1 (am_L.r f5 2 rfl) (by omega) ?_
          refine Ev.getR (ci := 7) (k := 1) (am_dt kX9_likely 25 rfl) (by decide) (by decide) rfl wd_424 f6.1 f7 ?_
          refine Ev.getI (ci := 6) (k := 10) (am_dt kX9_likely 26 rfl) (by decide) (by decide) rfl wd_503 f8.1 ?_
          refine Ev.i2l (am_dt kX9_likely 27 rfl) ?_
          refine Ev.lmul (am_dt kX9_likely 28 rfl) ?_
          refine Ev.iload_n 2 (am_dt kX9_likely 29 rfl) rfl rfl ?_
          refine Ev.iconst (v := 2) (am_dt kX9_likely 30 rfl) (by decide) ?_
          refine Ev.idiv (am_dt kX9_likely 31 rfl) (by decide) ?_
          refine Ev.callS (v := mX9_power) (As := [.long ((Int32.toInt64 (hI h2 (hR h2 (a0 + 20) 1) 10)) * (Int32.toInt64 (hI h2 (hR h2 (a0 + 20) 1) 10))), .int (x1 / 2)]) (st := []) okX9_power wd_505 wd_504 (am_dt kX9_likely 32 rfl) rfl rfl (Nat.le_of_ble_eq_true rfl) (Nat.le_of_ble_eq_true rfl) ?_
          refine EvM.mono k (fun r10 h9 k => ?_)
          obtain ⟨v11, rfl, k⟩ := k
          show Ev w _ _ _ 60 _ [.long v11] _ _
          refine Ev.lstore (lv' := [(5, .long v11), (3, .long v4), (0, .ref a0), (1, .int x1), (2, .int x2)]) (am_dt kX9_likely 33 rfl) (by decide) rfl ?_
          refine Ev.iload_n 4 (am_dt kX9_likely 34 rfl) rfl rfl ?_
          refine Ev.if_ne (tgt := 70) (am_dt kX9_likely 35 rfl) (by decide) (fun c => ?_) (fun c => ?_)
          · have k := k.2 c
            refine Ev.lload 0 (am_dt kX9_likely 38 rfl) rfl ?_
            refine Ev.lload_n 1 (am_dt kX9_likely 39 rfl) rfl rfl ?_
            refine Ev.lload 0 (am_dt kX9_likely 40 rfl) rfl ?_
            refine Ev.callS (v := mX9_lowest) (As := [.long v11, .long v4, .long v11]) (st := []) okX9_lowest wd_507 wd_506 (am_dt kX9_likely 41 rfl) rfl rfl (Nat.le_of_ble_eq_true rfl) (Nat.le_of_ble_eq_true rfl) ?_
            refine EvM.mono k (fun r16 h15 k => ?_)
            obtain ⟨v17, rfl, k⟩ := k
            show Ev w _ _ _ 78 _ [.long v17] _ _
            exact Ev.lret (am_dt kX9_likely 42 rfl) rfl k
          · have k := k.1 c
            refine Ev.lload_n 1 (am_dt kX9_likely 36 rfl) rfl rfl ?_
            refine Ev.goto (tgt := 72) (am_dt kX9_likely 37 rfl) (by decide) ?_
            refine Ev.lload_n 1 (am_dt kX9_likely 39 rfl) rfl rfl ?_
            refine Ev.lload 0 (am_dt kX9_likely 40 rfl) rfl ?_
            refine Ev.callS (v := mX9_lowest) (As := [.long v4, .long v4, .long v11]) (st := []) okX9_lowest wd_507 wd_506 (am_dt kX9_likely 41 rfl) rfl rfl (Nat.le_of_ble_eq_true rfl) (Nat.le_of_ble_eq_true rfl) ?_
            refine EvM.mono k (fun r13 h12 k => ?_)
            obtain ⟨v14, rfl, k⟩ := k
            show Ev w _ _ _ 78 _ [.long v14] _ _
            exact Ev.lret (am_dt kX9_likely 42 rfl) rfl k
        · have k := k.2 c
          refine Ev.ldc2 (v := (-1)) (am_dt kX9_likely 11 rfl) wd_499 ?_
          exact Ev.lret (am_dt kX9_likely 12 rfl) rfl k
set_option maxRecDepth 20000 in
set_option maxHeartbeats 2000000 in
theorem bX9_mean_0 {w : am_W} {d : Nat} {h : am_H} {Q : Option Value → am_H → Prop} {a0 : Nat} {x1 : Int32} {x2 : Int32}  (k : (x1 < 2 → (Q (some (.long ((-1)))) h)) ∧ (¬ x1 < 2 → ((16 < x1 → (Q (some (.long ((-1)))) h)) ∧ (¬ 16 < x1 → ((x2 < 0 → (Q (some (.long ((-1)))) h)) ∧ (¬ x2 < 0 → ((x2 ≤ 1 → ((am_L 9 a0 h) ∧ (EvM w mX9_levels d [.ref a0, .int x1, .int 1] h (fun r3 h2 => ∃ v4 : Int64, r3 = some (.long v4) ∧ ((am_L 9 a0 h2) ∧ (EvM w mX9_levels d [.ref a0, .int x1, .int 0] h2 (fun r7 h6 => ∃ v8 : Int64, r7 = some (.long v8) ∧ ((x2 = 0 → (EvM w mX9_lowest d [.long v4, .long v4, .long v8] h6 (fun r10 h9 => ∃ v11 : Int64, r10 = some (.long v11) ∧ (Q (some (.long v11)) h9)))) ∧ (¬ x2 = 0 → (EvM w mX9_lowest d [.long v8, .long v4, .long v8] h6 (fun r13 h12 => ∃ v14 : Int64, r13 = some (.long v14) ∧ (Q (some (.long v14)) h12)))))))))))) ∧ (¬ x2 ≤ 1 → (Q (some (.long ((-1)))) h))))))))) : EvM w mX9_mean (d + 1) [.ref a0, .int x1, .int x2] h Q := by
  show Ev w (am_Z w) mX9_mean (d + 1) 0 [(0, .ref a0), (1, .int x1), (2, .int x2)] [] h Q
  refine Ev.iload_n 1 (am_dt kX9_mean 0 rfl) rfl rfl ?_
  refine Ev.iconst (v := 2) (am_dt kX9_mean 1 rfl) (by decide) ?_
  refine Ev.icmp_lt (tgt := 20) (am_dt kX9_mean 2 rfl) (by decide) (fun c => ?_) (fun c => ?_)
  · have k := k.1 c
    refine Ev.ldc2 (v := (-1)) (am_dt kX9_mean 11 rfl) wd_499 ?_
    exact Ev.lret (am_dt kX9_mean 12 rfl) rfl k
  · have k := k.2 c
    refine Ev.iload_n 1 (am_dt kX9_mean 3 rfl) rfl rfl ?_
    refine Ev.bipush (v := 16) (am_dt kX9_mean 4 rfl) (by decide) ?_
    refine Ev.icmp_gt (tgt := 20) (am_dt kX9_mean 5 rfl) (by decide) (fun c => ?_) (fun c => ?_)
    · have k := k.1 c
      refine Ev.ldc2 (v := (-1)) (am_dt kX9_mean 11 rfl) wd_499 ?_
      exact Ev.lret (am_dt kX9_mean 12 rfl) rfl k
    · have k := k.2 c
      refine Ev.iload_n 2 (am_dt kX9_mean 6 rfl) rfl rfl ?_
      refine Ev.if_lt (tgt := 20) (am_dt kX9_mean 7 rfl) (by decide) (fun c => ?_) (fun c => ?_)
      · have k := k.1 c
        refine Ev.ldc2 (v := (-1)) (am_dt kX9_mean 11 rfl) wd_499 ?_
        exact Ev.lret (am_dt kX9_mean 12 rfl) rfl k
      · have k := k.2 c
        refine Ev.iload_n 2 (am_dt kX9_mean 8 rfl) rfl rfl ?_
        refine Ev.iconst (v := 1) (am_dt kX9_mean 9 rfl) (by decide) ?_
        refine Ev.icmp_le (tgt := 24) (am_dt kX9_mean 10 rfl) (by decide) (fun c => ?_) (fun c => ?_)
        · have k := k.1 c
          refine Ev.aload_n 0 (am_dt kX9_mean 13 rfl) rfl rfl ?_
          refine Ev.iload_n 1 (am_dt kX9_mean 14 rfl) rfl rfl ?_
          refine Ev.iconst (v := 1) (am_dt kX9_mean 15 rfl) (by decide) ?_
          obtain ⟨f1, k⟩ := k
          refine Ev.callV (ci := 9) (v := mX9_levels) (As := [.int x1, .int 1]) (st := []) okX9_levels wd_500 wd_501 wd_502 (am_dt kX9_mean 16 rfl) (by decide) rfl rfl (Nat.le_of_ble_eq_true rfl) (Nat.le_of_ble_eq_true rfl) f1.1 ?_
          refine EvM.mono k (fun r3 h2 k => ?_)
          obtain ⟨v4, rfl, k⟩ := k
          show Ev w _ _ _ 30 _ [.long v4] _ _
          refine Ev.lstore_n (lv' := [(3, .long v4), (0, .ref a0), (1, .int x1), (2, .int x2)]) (am_dt kX9_mean 17 rfl) rfl (by decide) rfl ?_
          refine Ev.aload_n 1 (am_dt kX9_mean 18 rfl) rfl rfl ?_
          refine Ev.iload_n 2 (am_dt kX9_mean 19 rfl) rfl rfl ?_
          refine Ev.iconst (v := 0) (am_dt kX9_mean 20 rfl) (by decide) ?_
          obtain ⟨f5, k⟩ := k
          refine Ev.callV (ci := 9) (v := mX9_levels) (As := [.int x1, .int 0]) (st := []) okX9_levels wd_500 wd_501 wd_502 (am_dt kX9_mean 21 rfl) (by decide) rfl rfl (Nat.le_of_ble_eq_true rfl) (Nat.le_of_ble_eq_true rfl) f5.1 ?_
          refine EvM.mono k (fun r7 h6 k => ?_)
          obtain ⟨v8, rfl, k⟩ := k
          show Ev w _ _ _ 37 _ [.long v8] _ _
          refine Ev.lstore (lv' := [(5, .long v8), (3, .long v4), (0, .ref a0), (1, .int x1), (2, .int x2)]) (am_dt kX9_mean 22 rfl) (by decide) rfl ?_
          refine Ev.iload_n 4 (am_dt kX9_mean 23 rfl) rfl rfl ?_
          refine Ev.if_ne (tgt := 47) (am_dt kX9_mean 24 rfl) (by decide) (fun c => ?_) (fun c => ?_)
          · have k := k.2 c
            refine Ev.lload 0 (am_dt kX9_mean 27 rfl) rfl ?_
            refine Ev.lload_n 1 (am_dt kX9_mean 28 rfl) rfl rfl ?_
            refine Ev.lload 0 (am_dt kX9_mean 29 rfl) rfl ?_
            refine Ev.callS (v := mX9_lowest) (As := [.long v8, .long v4, .long v8]) (st := []) okX9_lowest wd_507 wd_506 (am_dt kX9_mean 30 rfl) rfl rfl (Nat.le_of_ble_eq_true rfl) (Nat.le_of_ble_eq_true rfl) ?_
            refine EvM.mono k (fun r13 h12 k => ?_)
            obtain ⟨v14, rfl, k⟩ := k
            show Ev w _ _ _ 55 _ [.long v14] _ _
            exact Ev.lret (am_dt kX9_mean 31 rfl) rfl k
          · have k := k.1 c
            refine Ev.lload_n 1 (am_dt kX9_mean 25 rfl) rfl rfl ?_
            refine Ev.goto (tgt := 49) (am_dt kX9_mean 26 rfl) (by decide) ?_
            refine Ev.lload_n 1 (am_dt kX9_mean 28 rfl) rfl rfl ?_
            refine Ev.lload 0 (am_dt kX9_mean 29 rfl) rfl ?_
            refine Ev.callS (v := mX9_lowest) (As := [.long v4, .long v4, .long v8]) (st := []) okX9_lowest wd_507 wd_506 (am_dt kX9_mean 30 rfl) rfl rfl (Nat.le_of_ble_eq_true rfl) (Nat.le_of_ble_eq_true rfl) ?_
            refine EvM.mono k (fun r10 h9 k => ?_)
            obtain ⟨v11, rfl, k⟩ := k
            show Ev w _ _ _ 55 _ [.long v11] _ _
            exact Ev.lret (am_dt kX9_mean 31 rfl) rfl k
        · have k := k.2 c
          refine Ev.ldc2 (v := (-1)) (am_dt kX9_mean 11 rfl) wd_499 ?_
          exact Ev.lret (am_dt kX9_mean 12 rfl) rfl k
set_option maxRecDepth 20000 in
set_option maxHeartbeats 2000000 in
theorem bX9_came_0 {w : am_W} {d : Nat} {h : am_H} {Q : Option Value → am_H → Prop} {a0 : Nat} {x1 : Int32}  (k : (x1 < 1 → (Q (some (.long ((-1)))) h)) ∧ (¬ x1 < 1 → ((x1 ≤ 15 → (EvM w mX9_orders d [.int x1] h (fun r2 h1 => ∃ v3 : Int64, r2 = some (.long v3) ∧ (Q (some (.long v3)) h1)))) ∧ (¬ x1 ≤ 15 → (Q (some (.long ((-1)))) h))))) : EvM w mX9_came (d + 1) [.ref a0, .int x1] h Q := by
  show Ev w (am_Z w) mX9_came (d + 1) 0 [(0, .ref a0), (1, .int x1)] [] h Q
  refine Ev.iload_n 1 (am_dt kX9_came 0 rfl) rfl rfl ?_
  refine Ev.iconst (v := 1) (am_dt kX9_came 1 rfl) (by decide) ?_
  refine Ev.icmp_lt (tgt := 11) (am_dt kX9_came 2 rfl) (by decide) (fun c => ?_) (fun c => ?_)
  · have k := k.1 c
    refine Ev.ldc2 (v := (-1)) (am_dt kX9_came 6 rfl) wd_499 ?_
    refine Ev.goto (tgt := 21) (am_dt kX9_came 7 rfl) (by decide) ?_
    exact Ev.lret (am_dt kX9_came 10 rfl) rfl k
  · have k := k.2 c
    refine Ev.iload_n 1 (am_dt kX9_came 3 rfl) rfl rfl ?_
    refine Ev.bipush (v := 15) (am_dt kX9_came 4 rfl) (by decide) ?_
    refine Ev.icmp_le (tgt := 17) (am_dt kX9_came 5 rfl) (by decide) (fun c => ?_) (fun c => ?_)
    · have k := k.1 c
      refine Ev.iload_n 1 (am_dt kX9_came 8 rfl) rfl rfl ?_
      refine Ev.callS (v := mX9_orders) (As := [.int x1]) (st := []) okX9_orders wd_509 wd_508 (am_dt kX9_came 9 rfl) rfl rfl (Nat.le_of_ble_eq_true rfl) (Nat.le_of_ble_eq_true rfl) ?_
      refine EvM.mono k (fun r2 h1 k => ?_)
      obtain ⟨v3, rfl, k⟩ := k
      show Ev w _ _ _ 21 _ [.long v3] _ _
      exact Ev.lret (am_dt kX9_came 10 rfl) rfl k
    · have k := k.2 c
      refine Ev.ldc2 (v := (-1)) (am_dt kX9_came 6 rfl) wd_499 ?_
      refine Ev.goto (tgt := 21) (am_dt kX9_came 7 rfl) (by decide) ?_
      exact Ev.lret (am_dt kX9_came 10 rfl) rfl k
set_option maxRecDepth 20000 in
set_option maxHeartbeats 2000000 in
theorem bX9_lots_0 {w : am_W} {d : Nat} {h : am_H} {Q : Option Value → am_H → Prop} {a0 : Nat} {x1 : Int32} {x2 : Int32} {x3 : Int32}  (k : (x1 < 0 → (Q (some (.int ((-1)))) h)) ∧ (¬ x1 < 0 → ((9999 < x1 → (Q (some (.int ((-1)))) h)) ∧ (¬ 9999 < x1 → ((x2 < 1 → (Q (some (.int ((-1)))) h)) ∧ (¬ x2 < 1 → ((50 < x2 → (Q (some (.int ((-1)))) h)) ∧ (¬ 50 < x2 → ((x3 < 0 → (Q (some (.int ((-1)))) h)) ∧ (¬ x3 < 0 → ((x3 ≤ 4 → ((am_L 9 a0 h) ∧ (EvM w mX4_isKnown d [.ref (a0 + 62), .int x1, .int x2] h (fun r3 h2 => ∃ v4 : Int32, r3 = some (.int v4) ∧ ((v4 = 0 → ((am_L 9 a0 h2) ∧ (EvM w mX4_go d [.ref (a0 + 62), .ref (a0 + 20), .ref (a0 + 44), .int x1, .int x2] h2 (fun r7 h6 => r7 = none ∧ (Ev w (am_Z w) mX9_lots (d + 1) 62 [(0, .ref a0), (3, .int x3)] [] h6 Q))))) ∧ (¬ v4 = 0 → (Ev w (am_Z w) mX9_lots (d + 1) 62 [(0, .ref a0), (3, .int x3)] [] h2 Q))))))) ∧ (¬ x3 ≤ 4 → (Q (some (.int ((-1)))) h))))))))))))) : EvM w mX9_lots (d + 1) [.ref a0, .int x1, .int x2, .int x3] h Q := by
  show Ev w (am_Z w) mX9_lots (d + 1) 0 [(0, .ref a0), (1, .int x1), (2, .int x2), (3, .int x3)] [] h Q
  refine Ev.iload_n 1 (am_dt kX9_lots 0 rfl) rfl rfl ?_
  refine Ev.if_lt (tgt := 31) (am_dt kX9_lots 1 rfl) (by decide) (fun c => ?_) (fun c => ?_)
  · have k := k.1 c
    refine Ev.iconst (v := (-1)) (am_dt kX9_lots 16 rfl) (by decide) ?_
    exact Ev.iret .int (am_dt kX9_lots 17 rfl) rfl rfl k
  · have k := k.2 c
    refine Ev.iload_n 1 (am_dt kX9_lots 2 rfl) rfl rfl ?_
    refine Ev.sipush (v := 9999) (am_dt kX9_lots 3 rfl) (by decide) ?_
    refine Ev.icmp_gt (tgt := 31) (am_dt kX9_lots 4 rfl) (by decide) (fun c => ?_) (fun c => ?_)
    · have k := k.1 c
      refine Ev.iconst (v := (-1)) (am_dt kX9_lots 16 rfl) (by decide) ?_
      exact Ev.iret .int (am_dt kX9_lots 17 rfl) rfl rfl k
    · have k := k.2 c
      refine Ev.iload_n 2 (am_dt kX9_lots 5 rfl) rfl rfl ?_
      refine Ev.iconst (v := 1) (am_dt kX9_lots 6 rfl) (by decide) ?_
      refine Ev.icmp_lt (tgt := 31) (am_dt kX9_lots 7 rfl) (by decide) (fun c => ?_) (fun c => ?_)
      · have k := k.1 c
        refine Ev.iconst (v := (-1)) (am_dt kX9_lots 16 rfl) (by decide) ?_
        exact Ev.iret .int (am_dt kX9_lots 17 rfl) rfl rfl k
      · have k := k.2 c
        refine Ev.iload_n 2 (am_dt kX9_lots 8 rfl) rfl rfl ?_
        refine Ev.bipush (v := 50) (am_dt kX9_lots 9 rfl) (by decide) ?_
        refine Ev.icmp_gt (tgt := 31) (am_dt kX9_lots 10 rfl) (by decide) (fun c => ?_) (fun c => ?_)
        · have k := k.1 c
          refine Ev.iconst (v := (-1)) (am_dt kX9_lots 16 rfl) (by decide) ?_
          exact Ev.iret .int (am_dt kX9_lots 17 rfl) rfl rfl k
        · have k := k.2 c
          refine Ev.iload_n 3 (am_dt kX9_lots 11 rfl) rfl rfl ?_
          refine Ev.if_lt (tgt := 31) (am_dt kX9_lots 12 rfl) (by decide) (fun c => ?_) (fun c => ?_)
          · have k := k.1 c
            refine Ev.iconst (v := (-1)) (am_dt kX9_lots 16 rfl) (by decide) ?_
            exact Ev.iret .int (am_dt kX9_lots 17 rfl) rfl rfl k
          · have k := k.2 c
            refine Ev.iload_n 3 (am_dt kX9_lots 13 rfl) rfl rfl ?_
            refine Ev.iconst (v := 4) (am_dt kX9_lots 14 rfl) (by decide) ?_
            refine Ev.icmp_le (tgt := 33) (am_dt kX9_lots 15 rfl) (by decide) (fun c => ?_) (fun c => ?_)
            · have k := k.1 c
              refine Ev.aload_n 0 (am_dt kX9_lots 18 rfl) rfl rfl ?_
              obtain ⟨f1, k⟩ := k
              refine Ev.getRe (ci := 9) (k := 7) (r := a0 + 62) (am_dt kX9_lots 19 rfl) (by decide) (by decide) rfl wd_397 f1.1 (am_L.r f1 7 rfl) (by omega) ?_
              refine Ev.iload_n 1 (am_dt kX9_lots 20 rfl) rfl rfl ?_
              refine Ev.iload_n 2 (am_dt kX9_lots 21 rfl) rfl rfl ?_
              refine Ev.callV (ci := 4) (v := mX4_isKnown) (As := [.int x1, .int x2]) (st := []) okX4_isKnown wd_510 wd_511 wd_512 (am_dt kX9_lots 22 rfl) (by decide) rfl rfl (Nat.le_of_ble_eq_true rfl) (Nat.le_of_ble_eq_true rfl) (am_L.s f1 7 rfl) ?_
              refine EvM.mono k (fun r3 h2 k => ?_)
              obtain ⟨v4, rfl, k⟩ := k
              show Ev w _ _ _ 42 _ [.int v4] _ _
              refine Ev.if_ne (tgt := 62) (am_dt kX9_lots 23 rfl) (by decide) (fun c => ?_) (fun c => ?_)
              · have k := k.2 c
                exact Ev.sub [0, 3] rfl k
              · have k := k.1 c
                refine Ev.aload_n 0 (am_dt kX9_lots 24 rfl) rfl rfl ?_
                obtain ⟨f5, k⟩ := k
                refine Ev.getRe (ci := 9) (k := 7) (r := a0 + 62) (am_dt kX9_lots 25 rfl) (by decide) (by decide) rfl wd_397 f5.1 (am_L.r f5 7 rfl) (by omega) ?_
                refine Ev.aload_n 0 (am_dt kX9_lots 26 rfl) rfl rfl ?_
                refine Ev.getRe (ci := 9) (k := 2) (r := a0 + 20) (am_dt kX9_lots 27 rfl) (by decide) (by decide) rfl wd_374 f5.1 (am_L.r f5 2 rfl) (by omega) ?_
                refine Ev.aload_n 0 (am_dt kX9_lots 28 rfl) rfl rfl ?_
                refine Ev.getRe (ci := 9) (k := 5) (r := a0 + 44) (am_dt kX9_lots 29 rfl) (by decide) (by decide) rfl wd_391 f5.1 (am_L.r f5 5 rfl) (by omega) ?_
                refine Ev.iload_n 1 (am_dt kX9_lots 30 rfl) rfl rfl ?_
                refine Ev.iload_n 2 (am_dt kX9_lots 31 rfl) rfl rfl ?_
                refine Ev.callV (ci := 4) (v := mX4_go) (As := [.ref (a0 + 20), .ref (a0 + 44), .int x1, .int x2]) (st := []) okX4_go wd_513 wd_514 wd_515 (am_dt kX9_lots 32 rfl) (by decide) rfl rfl (Nat.le_of_ble_eq_true rfl) (Nat.le_of_ble_eq_true rfl) (am_L.s f5 7 rfl) ?_
                refine EvM.mono k (fun r7 h6 k => ?_)
                obtain ⟨rfl, k⟩ := k
                show Ev w _ _ _ 62 _ [] _ _
                exact Ev.sub [0, 3] rfl k
            · have k := k.2 c
              refine Ev.iconst (v := (-1)) (am_dt kX9_lots 16 rfl) (by decide) ?_
              exact Ev.iret .int (am_dt kX9_lots 17 rfl) rfl rfl k
set_option maxRecDepth 20000 in
set_option maxHeartbeats 2000000 in
theorem bX9_lots_62 {w : am_W} {d : Nat} {h : am_H} {Q : Option Value → am_H → Prop} {a0 : Nat} {x3 : Int32}  (k : (x3 = 0 → ((am_L 9 a0 h) ∧ ((am_L 4 (a0 + 62) h) ∧ (Q (some (.int (hI h (a0 + 62) 4))) h)))) ∧ (¬ x3 = 0 → ((x3 = 1 → ((am_L 9 a0 h) ∧ ((am_L 4 (a0 + 62) h) ∧ (Q (some (.int (hI h (a0 + 62) 5))) h)))) ∧ (¬ x3 = 1 → ((x3 = 2 → ((am_L 9 a0 h) ∧ ((am_L 4 (a0 + 62) h) ∧ (Q (some (.int (hI h (a0 + 62) 6))) h)))) ∧ (¬ x3 = 2 → ((x3 = 3 → ((am_L 9 a0 h) ∧ ((am_L 4 (a0 + 62) h) ∧ (Q (some (.int (hI h (a0 + 62) 7))) h)))) ∧ (¬ x3 = 3 → ((am_L 9 a0 h) ∧ ((am_L 4 (a0 + 62) h) ∧ (Q (some (.int (hI h (a0 + 62) 8))) h))))))))))) : Ev w (am_Z w) mX9_lots (d + 1) 62 [(0, .ref a0), (3, .int x3)] [] h Q := by
  refine Ev.iload_n 1 (am_dt kX9_lots 33 rfl) rfl rfl ?_
  by_cases c : x3 = 0
  · refine Ev.tableIn (off := 29) (tgt := 92) (am_dt kX9_lots 34 rfl) (by rw [c]; decide) (by rw [c]; decide) (by rw [c]; rfl) (by decide) ?_
    have k := k.1 c
    refine Ev.aload_n 0 (am_dt kX9_lots 35 rfl) rfl rfl ?_
    obtain ⟨f1, k⟩ := k
    refine Ev.getRe (ci := 9) (k := 7) (r := a0 + 62) (am_dt kX9_lots 36 rfl) (by decide) (by decide) rfl wd_397 f1.1 (am_L.r f1 7 rfl) (by omega) ?_
    obtain ⟨f2, k⟩ := k
    refine Ev.getI (ci := 4) (k := 4) (am_dt kX9_lots 37 rfl) (by decide) (by decide) rfl wd_516 f2.1 ?_
    exact Ev.iret .int (am_dt kX9_lots 38 rfl) rfl rfl k
  have k := k.2 c
  have c0 := am_ne (n := 0) (by decide) c
  clear c
  by_cases c : x3 = 1
  · refine Ev.tableIn (off := 37) (tgt := 100) (am_dt kX9_lots 34 rfl) (by rw [c]; decide) (by rw [c]; decide) (by rw [c]; rfl) (by decide) ?_
    have k := k.1 c
    refine Ev.aload_n 0 (am_dt kX9_lots 39 rfl) rfl rfl ?_
    obtain ⟨f3, k⟩ := k
    refine Ev.getRe (ci := 9) (k := 7) (r := a0 + 62) (am_dt kX9_lots 40 rfl) (by decide) (by decide) rfl wd_397 f3.1 (am_L.r f3 7 rfl) (by omega) ?_
    obtain ⟨f4, k⟩ := k
    refine Ev.getI (ci := 4) (k := 5) (am_dt kX9_lots 41 rfl) (by decide) (by decide) rfl wd_517 f4.1 ?_
    exact Ev.iret .int (am_dt kX9_lots 42 rfl) rfl rfl k
  have k := k.2 c
  have c1 := am_ne (n := 1) (by decide) c
  clear c
  by_cases c : x3 = 2
  · refine Ev.tableIn (off := 45) (tgt := 108) (am_dt kX9_lots 34 rfl) (by rw [c]; decide) (by rw [c]; decide) (by rw [c]; rfl) (by decide) ?_
    have k := k.1 c
    refine Ev.aload_n 0 (am_dt kX9_lots 43 rfl) rfl rfl ?_
    obtain ⟨f5, k⟩ := k
    refine Ev.getRe (ci := 9) (k := 7) (r := a0 + 62) (am_dt kX9_lots 44 rfl) (by decide) (by decide) rfl wd_397 f5.1 (am_L.r f5 7 rfl) (by omega) ?_
    obtain ⟨f6, k⟩ := k
    refine Ev.getI (ci := 4) (k := 6) (am_dt kX9_lots 45 rfl) (by decide) (by decide) rfl wd_518 f6.1 ?_
    exact Ev.iret .int (am_dt kX9_lots 46 rfl) rfl rfl k
  have k := k.2 c
  have c2 := am_ne (n := 2) (by decide) c
  clear c
  by_cases c : x3 = 3
  · refine Ev.tableIn (off := 53) (tgt := 116) (am_dt kX9_lots 34 rfl) (by rw [c]; decide) (by rw [c]; decide) (by rw [c]; rfl) (by decide) ?_
    have k := k.1 c
    refine Ev.aload_n 0 (am_dt kX9_lots 47 rfl) rfl rfl ?_
    obtain ⟨f7, k⟩ := k
    refine Ev.getRe (ci := 9) (k := 7) (r := a0 + 62) (am_dt kX9_lots 48 rfl) (by decide) (by decide) rfl wd_397 f7.1 (am_L.r f7 7 rfl) (by omega) ?_
    obtain ⟨f8, k⟩ := k
    refine Ev.getI (ci := 4) (k := 7) (am_dt kX9_lots 49 rfl) (by decide) (by decide) rfl wd_519 f8.1 ?_
    exact Ev.iret .int (am_dt kX9_lots 50 rfl) rfl rfl k
  have k := k.2 c
  have c3 := am_ne (n := 3) (by decide) c
  clear c
  refine Ev.tableOut (tgt := 124) (am_dt kX9_lots 34 rfl) (by omega) (by decide) ?_
  refine Ev.aload_n 0 (am_dt kX9_lots 51 rfl) rfl rfl ?_
  obtain ⟨f9, k⟩ := k
  refine Ev.getRe (ci := 9) (k := 7) (r := a0 + 62) (am_dt kX9_lots 52 rfl) (by decide) (by decide) rfl wd_397 f9.1 (am_L.r f9 7 rfl) (by omega) ?_
  obtain ⟨f10, k⟩ := k
  refine Ev.getI (ci := 4) (k := 8) (am_dt kX9_lots 53 rfl) (by decide) (by decide) rfl wd_520 f10.1 ?_
  exact Ev.iret .int (am_dt kX9_lots 54 rfl) rfl rfl k
set_option maxRecDepth 20000 in
set_option maxHeartbeats 2000000 in
theorem bX9_best_0 {w : am_W} {d : Nat} {h : am_H} {Q : Option Value → am_H → Prop} {a0 : Nat}  (k : Ev w (am_Z w) mX9_best (d + 1) 6 [(0, .ref a0), (1, .int ((-1))), (2, .int 0), (3, .int 0)] [] h Q) : EvM w mX9_best (d + 1) [.ref a0] h Q := by
  show Ev w (am_Z w) mX9_best (d + 1) 0 [(0, .ref a0)] [] h Q
  refine Ev.iconst (v := (-1)) (am_dt kX9_best 0 rfl) (by decide) ?_
  refine Ev.istore_n (lv' := [(1, .int ((-1))), (0, .ref a0)]) (am_dt kX9_best 1 rfl) rfl (by decide) rfl ?_
  refine Ev.iconst (v := 0) (am_dt kX9_best 2 rfl) (by decide) ?_
  refine Ev.istore_n (lv' := [(2, .int 0), (1, .int ((-1))), (0, .ref a0)]) (am_dt kX9_best 3 rfl) rfl (by decide) rfl ?_
  refine Ev.iconst (v := 0) (am_dt kX9_best 4 rfl) (by decide) ?_
  refine Ev.istore_n (lv' := [(3, .int 0), (2, .int 0), (1, .int ((-1))), (0, .ref a0)]) (am_dt kX9_best 5 rfl) rfl (by decide) rfl ?_
  exact Ev.sub [3, 2, 1, 0] rfl k
set_option maxRecDepth 20000 in
set_option maxHeartbeats 2000000 in
theorem bX9_best_6 {w : am_W} {d : Nat} {h : am_H} {Q : Option Value → am_H → Prop} {a0 : Nat} {x1 : Int32} {x2 : Int32} {x3 : Int32}  (k : (am_L 9 a0 h) ∧ ((am_L 7 (a0 + 20) h) ∧ ((hR h (a0 + 20) 1 ≠ 0) ∧ ((am_L 6 (hR h (a0 + 20) 1) h) ∧ (((hI h (hR h (a0 + 20) 1) 13) ≤ x3 → (Q (some (.int x1)) h)) ∧ (¬ (hI h (hR h (a0 + 20) 1) 13) ≤ x3 → (EvM w mX9_beginTrial d [.ref a0, .int x3] h (fun r6 h5 => r6 = none ∧ ((am_L 9 a0 h5) ∧ (EvM w mX3_run d [.ref (a0 + 44), .int 1440] h5 (fun r9 h8 => r9 = none ∧ ((am_L 9 a0 h8) ∧ (EvM w mX3_costWithout d [.ref (a0 + 44), .int ((-1))] h8 (fun r12 h11 => ∃ v13 : Int32, r12 = some (.int v13) ∧ ((x1 = ((-1)) → (Ev w (am_Z w) mX9_best (d + 1) 6 [(0, .ref a0), (1, .int x3), (2, .int v13), (3, .int (x3 + 1))] [] h11 Q)) ∧ (¬ x1 = ((-1)) → ((x2 ≤ v13 → (Ev w (am_Z w) mX9_best (d + 1) 6 [(0, .ref a0), (1, .int x1), (2, .int x2), (3, .int (x3 + 1))] [] h11 Q)) ∧ (¬ x2 ≤ v13 → (Ev w (am_Z w) mX9_best (d + 1) 6 [(0, .ref a0), (1, .int x3), (2, .int v13), (3, .int (x3 + 1))] [] h11 Q))))))))))))))))))) : Ev w (am_Z w) mX9_best (d + 1) 6 [(0, .ref a0), (1, .int x1), (2, .int x2), (3, .int x3)] [] h Q := by
  refine Ev.iload_n 3 (am_dt kX9_best 6 rfl) rfl rfl ?_
  refine Ev.aload_n 0 (am_dt kX9_best 7 rfl) rfl rfl ?_
  obtain ⟨f1, k⟩ := k
  refine Ev.getRe (ci := 9) (k := 2) (r := a0 + 20) (am_dt kX9_best 8 rfl) (by decide) (by decide) rfl wd_374 f1.1 (am_L.r f1 2 rfl) (by omega) ?_
  obtain ⟨f2, k⟩ := k
  obtain ⟨f3, k⟩ := k
  refine Ev.getR (ci := 7) (k := 1) (am_dt kX9_best 9 rfl) (by decide) (by decide) rfl wd_424 f2.1 f3 ?_
  obtain ⟨f4, k⟩ := k
  refine Ev.getI (ci := 6) (k := 13) (am_dt kX9_best 10 rfl) (by decide) (by decide) rfl wd_436 f4.1 ?_
  refine Ev.icmp_ge (tgt := 67) (am_dt kX9_best 11 rfl) (by decide) (fun c => ?_) (fun c => ?_)
  · have k := k.1 c
    refine Ev.iload_n 1 (am_dt kX9_best 36 rfl) rfl rfl ?_
    exact Ev.iret .int (am_dt kX9_best 37 rfl) rfl rfl k
  · have k := k.2 c
    refine Ev.aload_n 0 (am_dt kX9_best 12 rfl) rfl rfl ?_
    refine Ev.iload_n 3 (am_dt kX9_best 13 rfl) rfl rfl ?_
    refine Ev.callV (ci := 9) (v := mX9_beginTrial) (As := [.int x3]) (st := []) okX9_beginTrial wd_461 wd_462 wd_463 (am_dt kX9_best 14 rfl) (by decide) rfl rfl (Nat.le_of_ble_eq_true rfl) (Nat.le_of_ble_eq_true rfl) f1.1 ?_
    refine EvM.mono k (fun r6 h5 k => ?_)
    obtain ⟨rfl, k⟩ := k
    show Ev w _ _ _ 25 _ [] _ _
    refine Ev.aload_n 0 (am_dt kX9_best 15 rfl) rfl rfl ?_
    obtain ⟨f7, k⟩ := k
    refine Ev.getRe (ci := 9) (k := 5) (r := a0 + 44) (am_dt kX9_best 16 rfl) (by decide) (by decide) rfl wd_391 f7.1 (am_L.r f7 5 rfl) (by omega) ?_
    refine Ev.sipush (v := 1440) (am_dt kX9_best 17 rfl) (by decide) ?_
    refine Ev.callV (ci := 3) (v := mX3_run) (As := [.int 1440]) (st := []) okX3_run wd_304 wd_305 wd_464 (am_dt kX9_best 18 rfl) (by decide) rfl rfl (Nat.le_of_ble_eq_true rfl) (Nat.le_of_ble_eq_true rfl) (am_L.s f7 5 rfl) ?_
    refine EvM.mono k (fun r9 h8 k => ?_)
    obtain ⟨rfl, k⟩ := k
    show Ev w _ _ _ 35 _ [] _ _
    refine Ev.aload_n 0 (am_dt kX9_best 19 rfl) rfl rfl ?_
    obtain ⟨f10, k⟩ := k
    refine Ev.getRe (ci := 9) (k := 5) (r := a0 + 44) (am_dt kX9_best 20 rfl) (by decide) (by decide) rfl wd_391 f10.1 (am_L.r f10 5 rfl) (by omega) ?_
    refine Ev.iconst (v := (-1)) (am_dt kX9_best 21 rfl) (by decide) ?_
    refine Ev.callV (ci := 3) (v := mX3_costWithout) (As := [.int ((-1))]) (st := []) okX3_costWithout wd_349 wd_350 wd_447 (am_dt kX9_best 22 rfl) (by decide) rfl rfl (Nat.le_of_ble_eq_true rfl) (Nat.le_of_ble_eq_true rfl) (am_L.s f10 5 rfl) ?_
    refine EvM.mono k (fun r12 h11 k => ?_)
    obtain ⟨v13, rfl, k⟩ := k
    show Ev w _ _ _ 43 _ [.int v13] _ _
    refine Ev.istore (lv' := [(4, .int v13), (0, .ref a0), (1, .int x1), (2, .int x2), (3, .int x3)]) (am_dt kX9_best 23 rfl) (by decide) rfl ?_
    refine Ev.iload_n 2 (am_dt kX9_best 24 rfl) rfl rfl ?_
    refine Ev.iconst (v := (-1)) (am_dt kX9_best 25 rfl) (by decide) ?_
    refine Ev.icmp_eq (tgt := 56) (am_dt kX9_best 26 rfl) (by decide) (fun c => ?_) (fun c => ?_)
    · have k := k.1 c
      refine Ev.iload_n 4 (am_dt kX9_best 30 rfl) rfl rfl ?_
      refine Ev.istore_n (lv' := [(1, .int x3), (4, .int v13), (0, .ref a0), (2, .int x2), (3, .int x3)]) (am_dt kX9_best 31 rfl) rfl (by decide) rfl ?_
      refine Ev.iload 1 (am_dt kX9_best 32 rfl) rfl ?_
      refine Ev.istore_n (lv' := [(2, .int v13), (1, .int x3), (4, .int v13), (0, .ref a0), (3, .int x3)]) (am_dt kX9_best 33 rfl) rfl (by decide) rfl ?_
      refine Ev.iinc (v := x3 + 1) (lv' := [(3, .int (x3 + 1)), (2, .int v13), (1, .int x3), (4, .int v13), (0, .ref a0)]) 4 (am_dt kX9_best 34 rfl) rfl rfl (by decide) rfl ?_
      refine Ev.goto (tgt := 6) (am_dt kX9_best 35 rfl) (by decide) ?_
      exact Ev.sub [4, 2, 1, 0] rfl k
    · have k := k.2 c
      refine Ev.iload 0 (am_dt kX9_best 27 rfl) rfl ?_
      refine Ev.iload_n 3 (am_dt kX9_best 28 rfl) rfl rfl ?_
      refine Ev.icmp_ge (tgt := 61) (am_dt kX9_best 29 rfl) (by decide) (fun c => ?_) (fun c => ?_)
      · have k := k.1 c
        refine Ev.iinc (v := x3 + 1) (lv' := [(3, .int (x3 + 1)), (4, .int v13), (0, .ref a0), (1, .int x1), (2, .int x2)]) 4 (am_dt kX9_best 34 rfl) rfl rfl (by decide) rfl ?_
        refine Ev.goto (tgt := 6) (am_dt kX9_best 35 rfl) (by decide) ?_
        exact Ev.sub [2, 3, 4, 0] rfl k
      · have k := k.2 c
        refine Ev.iload_n 4 (am_dt kX9_best 30 rfl) rfl rfl ?_
        refine Ev.istore_n (lv' := [(1, .int x3), (4, .int v13), (0, .ref a0), (2, .int x2), (3, .int x3)]) (am_dt kX9_best 31 rfl) rfl (by decide) rfl ?_
        refine Ev.iload 1 (am_dt kX9_best 32 rfl) rfl ?_
        refine Ev.istore_n (lv' := [(2, .int v13), (1, .int x3), (4, .int v13), (0, .ref a0), (3, .int x3)]) (am_dt kX9_best 33 rfl) rfl (by decide) rfl ?_
        refine Ev.iinc (v := x3 + 1) (lv' := [(3, .int (x3 + 1)), (2, .int v13), (1, .int x3), (4, .int v13), (0, .ref a0)]) 4 (am_dt kX9_best 34 rfl) rfl rfl (by decide) rfl ?_
        refine Ev.goto (tgt := 6) (am_dt kX9_best 35 rfl) (by decide) ?_
        exact Ev.sub [4, 2, 1, 0] rfl k
