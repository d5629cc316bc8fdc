set_option maxRecDepth 20000 in
set_option maxHeartbeats 2000000 in
theorem bX1_init_0 {w : am_W} {d : Nat} {h : am_H} {Q : Option Value → am_H → Prop} {a0 : Nat}  (k : ∀ h1 : am_H, h1 = nA h 12 256 → ((hK h1 a0 = 1) ∧ ((hZ h ≠ 0) ∧ (∀ h4 : am_H, h4 = sR h1 a0 0 (hZ h) → (∀ h5 : am_H, h5 = nA h4 12 2048 → ((hK h5 a0 = 1) ∧ ((hZ h4 ≠ 0) ∧ (∀ h8 : am_H, h8 = sR h5 a0 1 (hZ h4) → (∀ h9 : am_H, h9 = nA h8 12 256 → ((hK h9 a0 = 1) ∧ ((hZ h8 ≠ 0) ∧ (∀ h12 : am_H, h12 = sR h9 a0 2 (hZ h8) → (∀ h13 : am_H, h13 = nA h12 12 16 → ((hK h13 a0 = 1) ∧ ((hZ h12 ≠ 0) ∧ (∀ h16 : am_H, h16 = sR h13 a0 3 (hZ h12) → (Q none h16))))))))))))))))) : EvM w mX1_init (d + 1) [.ref a0] h Q := by
  show Ev w (am_Z w) mX1_init (d + 1) 0 [(0, .ref a0)] [] h Q
  refine Ev.aload_n 0 (am_dt kX1_init 0 rfl) rfl rfl ?_
  refine Ev.objI wd_327 wd_2 wd_3 (am_dt kX1_init 1 rfl) (Nat.le_of_ble_eq_true rfl) ?_
  refine Ev.aload_n 0 (am_dt kX1_init 2 rfl) rfl rfl ?_
  refine Ev.sipush (v := 256) (am_dt kX1_init 3 rfl) (by decide) ?_
  refine Ev.newI' (n := 256) (N := 256) (am_dt kX1_init 4 rfl) wd_9 (by decide) (by decide) (by decide) (fun h1 eh1 => ?_)
  have k := k h1 eh1
  obtain ⟨f2, k⟩ := k
  obtain ⟨f3, k⟩ := k
  refine Ev.putRF' (ci := 1) (k := 0) (am_dt kX1_init 5 rfl) (by decide) (by decide) wd_328 rfl rfl rfl rfl rfl rfl f3 f2 (fun h4 eh4 => ?_)
  have k := k h4 eh4
  have f2 := kR eh4 f2
  refine Ev.aload_n 0 (am_dt kX1_init 6 rfl) rfl rfl ?_
  refine Ev.sipush (v := 2048) (am_dt kX1_init 7 rfl) (by decide) ?_
  refine Ev.newI' (n := 2048) (N := 2048) (am_dt kX1_init 8 rfl) wd_9 (by decide) (by decide) (by decide) (fun h5 eh5 => ?_)
  have k := k h5 eh5
  obtain ⟨f6, k⟩ := k
  obtain ⟨f7, k⟩ := k
  refine Ev.putRF' (ci := 1) (k := 1) (am_dt kX1_init 9 rfl) (by decide) (by decide) wd_329 rfl rfl rfl rfl rfl rfl f7 f6 (fun h8 eh8 => ?_)
  have k := k h8 eh8
  have f6 := kR eh8 f6
  refine Ev.aload_n 0 (am_dt kX1_init 10 rfl) rfl rfl ?_
  refine Ev.sipush (v := 256) (am_dt kX1_init 11 rfl) (by decide) ?_
  refine Ev.newI' (n := 256) (N := 256) (am_dt kX1_init 12 rfl) wd_9 (by decide) (by decide) (by decide) (fun h9 eh9 => ?_)
  have k := k h9 eh9
  obtain ⟨f10, k⟩ := k
  obtain ⟨f11, k⟩ := k
  refine Ev.putRF' (ci := 1) (k := 2) (am_dt kX1_init 13 rfl) (by decide) (by decide) wd_330 rfl rfl rfl rfl rfl rfl f11 f10 (fun h12 eh12 => ?_)
  have k := k h12 eh12
  have f10 := kR eh12 f10
  refine Ev.aload_n 0 (am_dt kX1_init 14 rfl) rfl rfl ?_
  refine Ev.bipush (v := 16) (am_dt kX1_init 15 rfl) (by decide) ?_
  refine Ev.newI' (n := 16) (N := 16) (am_dt kX1_init 16 rfl) wd_9 (by decide) (by decide) (by decide) (fun h13 eh13 => ?_)
  have k := k h13 eh13
  obtain ⟨f14, k⟩ := k
  obtain ⟨f15, k⟩ := k
  refine Ev.putRF' (ci := 1) (k := 3) (am_dt kX1_init 17 rfl) (by decide) (by decide) wd_331 rfl rfl rfl rfl rfl rfl f15 f14 (fun h16 eh16 => ?_)
  have k := k h16 eh16
  have f14 := kR eh16 f14
  exact Ev.vret (am_dt kX1_init 18 rfl) rfl k
set_option maxRecDepth 20000 in
set_option maxHeartbeats 2000000 in
theorem bX1_weigh_0 {w : am_W} {d : Nat} {h : am_H} {Q : Option Value → am_H → Prop} {a0 : Nat} {a1 : Nat} {a2 : Nat}  (k : (am_L 1 a0 h) ∧ (((hI h a0 6) = 0 → ((am_L 7 a1 h) ∧ ((hR h a1 1 ≠ 0) ∧ ((am_L 6 (hR h a1 1) h) ∧ (Ev w (am_Z w) mX1_weigh (d + 1) 30 [(0, .ref a0), (1, .ref a1), (2, .ref a2), (3, .ref (hR h a1 1)), (4, .int (if ((1 : Int32) <<< ((hI h (hR h a1 1) 12) &&& 31)) < 256 then ((1 : Int32) <<< ((hI h (hR h a1 1) 12) &&& 31)) else 256)), (5, .int 0)] [] h Q))))) ∧ (¬ (hI h a0 6) = 0 → (Q none h)))) : EvM w mX1_weigh (d + 1) [.ref a0, .ref a1, .ref a2] h Q := by
  show Ev w (am_Z w) mX1_weigh (d + 1) 0 [(0, .ref a0), (1, .ref a1), (2, .ref a2)] [] h Q
  refine Ev.aload_n 0 (am_dt kX1_weigh 0 rfl) rfl rfl ?_
  obtain ⟨f1, k⟩ := k
  refine Ev.getI (ci := 1) (k := 6) (am_dt kX1_weigh 1 rfl) (by decide) (by decide) rfl wd_332 f1.1 ?_
  refine Ev.if_eq (tgt := 8) (am_dt kX1_weigh 2 rfl) (by decide) (fun c => ?_) (fun c => ?_)
  · have k := k.1 c
    refine Ev.aload_n 1 (am_dt kX1_weigh 4 rfl) rfl rfl ?_
    obtain ⟨f2, k⟩ := k
    obtain ⟨f3, k⟩ := k
    refine Ev.getR (ci := 7) (k := 1) (am_dt kX1_weigh 5 rfl) (by decide) (by decide) rfl wd_333 f2.1 f3 ?_
    refine Ev.astore_n (lv' := [(3, .ref (hR h a1 1)), (0, .ref a0), (1, .ref a1), (2, .ref a2)]) (am_dt kX1_weigh 6 rfl) rfl (by decide) rfl ?_
    refine Ev.sipush (v := 256) (am_dt kX1_weigh 7 rfl) (by decide) ?_
    refine Ev.iconst (v := 1) (am_dt kX1_weigh 8 rfl) (by decide) ?_
    refine Ev.aload_n 0 (am_dt kX1_weigh 9 rfl) rfl rfl ?_
    obtain ⟨f4, k⟩ := k
    refine Ev.getI (ci := 6) (k := 12) (am_dt kX1_weigh 10 rfl) (by decide) (by decide) rfl wd_334 f4.1 ?_
    refine Ev.ishl (am_dt kX1_weigh 11 rfl) ?_
    refine Ev.mmin wd_335 wd_74 wd_6 wd_75 (am_dt kX1_weigh 12 rfl) (Nat.le_of_ble_eq_true rfl) ?_
    refine Ev.istore (lv' := [(4, .int (if ((1 : Int32) <<< ((hI h (hR h a1 1) 12) &&& 31)) < 256 then ((1 : Int32) <<< ((hI h (hR h a1 1) 12) &&& 31)) else 256)), (3, .ref (hR h a1 1)), (0, .ref a0), (1, .ref a1), (2, .ref a2)]) (am_dt kX1_weigh 13 rfl) (by decide) rfl ?_
    refine Ev.iconst (v := 0) (am_dt kX1_weigh 14 rfl) (by decide) ?_
    refine Ev.istore (lv' := [(5, .int 0), (4, .int (if ((1 : Int32) <<< ((hI h (hR h a1 1) 12) &&& 31)) < 256 then ((1 : Int32) <<< ((hI h (hR h a1 1) 12) &&& 31)) else 256)), (3, .ref (hR h a1 1)), (0, .ref a0), (1, .ref a1), (2, .ref a2)]) (am_dt kX1_weigh 15 rfl) (by decide) rfl ?_
    exact Ev.sub [3, 4, 5, 2, 1, 0] rfl k
  · have k := k.2 c
    exact Ev.vret (am_dt kX1_weigh 3 rfl) rfl k
set_option maxRecDepth 20000 in
set_option maxHeartbeats 2000000 in
theorem bX1_weigh_30 {w : am_W} {d : Nat} {h : am_H} {Q : Option Value → am_H → Prop} {a0 : Nat} {a1 : Nat} {a2 : Nat} {a3 : Nat} {x4 : Int32} {x5 : Int32}  (k : (x4 ≤ x5 → ((am_L 1 a0 h) ∧ (EvM w mX1_findCheapest d [.ref a0, .int x4] h (fun r3 h2 => r3 = none ∧ ((am_L 6 a3 h2) ∧ ((am_L 1 a0 h2) ∧ (EvM w mX1_findResting d [.ref a0, .int x4, .int (hI h2 a3 12)] h2 (fun r7 h6 => r7 = none ∧ ((am_L 1 a0 h6) ∧ (∀ h9 : am_H, h9 = sI h6 a0 6 1 → (Q none h9))))))))))) ∧ (¬ x4 ≤ x5 → ((am_L 1 a0 h) ∧ (EvM w mX1_seat d [.ref a0, .ref a3, .int x5] h (fun r12 h11 => r12 = none ∧ ((am_L 7 a1 h11) ∧ ((am_L 6 a3 h11) ∧ ((am_L 1 a0 h11) ∧ ((am_L 3 a2 h11) ∧ (EvM w mX3_begin d [.ref a2, .ref a3, .int (hI h11 a1 2), .ref (a3 + 1), .ref (a0 + 4)] h11 (fun r18 h17 => r18 = none ∧ ((am_L 3 a2 h17) ∧ (EvM w mX3_run d [.ref a2, .int 1440] h17 (fun r21 h20 => r21 = none ∧ ((am_L 1 a0 h20) ∧ ((am_L 3 a2 h20) ∧ (EvM w mX3_costWithout d [.ref a2, .int ((-1))] h20 (fun r25 h24 => ∃ v26 : Int32, r25 = some (.int v26) ∧ (EvM w mX9_set d [.ref (a0 + 1), .int x5, .int v26] h24 (fun r28 h27 => r28 = none ∧ (Ev w (am_Z w) mX1_weigh (d + 1) 85 [(0, .ref a0), (1, .ref a1), (2, .ref a2), (3, .ref a3), (4, .int x4), (5, .int x5), (6, .int 0)] [] h27 Q))))))))))))))))))))) : Ev w (am_Z w) mX1_weigh (d + 1) 30 [(0, .ref a0), (1, .ref a1), (2, .ref a2), (3, .ref a3), (4, .int x4), (5, .int x5)] [] h Q := by
  refine Ev.iload 5 (am_dt kX1_weigh 16 rfl) rfl ?_
  refine Ev.iload 4 (am_dt kX1_weigh 17 rfl) rfl ?_
  refine Ev.icmp_ge (tgt := 134) (am_dt kX1_weigh 18 rfl) (by decide) (fun c => ?_) (fun c => ?_)
  · have k := k.1 c
    refine Ev.aload_n 0 (am_dt kX1_weigh 66 rfl) rfl rfl ?_
    refine Ev.iload 4 (am_dt kX1_weigh 67 rfl) rfl ?_
    obtain ⟨f1, k⟩ := k
    refine Ev.callV (ci := 1) (v := mX1_findCheapest) (As := [.int x4]) (st := []) okX1_findCheapest wd_336 wd_337 wd_338 (am_dt kX1_weigh 68 rfl) (by decide) rfl rfl (Nat.le_of_ble_eq_true rfl) (Nat.le_of_ble_eq_true rfl) f1.1 ?_
    refine EvM.mono k (fun r3 h2 k => ?_)
    obtain ⟨rfl, k⟩ := k
    show Ev w _ _ _ 140 _ [] _ _
    refine Ev.aload_n 0 (am_dt kX1_weigh 69 rfl) rfl rfl ?_
    refine Ev.iload 4 (am_dt kX1_weigh 70 rfl) rfl ?_
    refine Ev.aload_n 3 (am_dt kX1_weigh 71 rfl) rfl rfl ?_
    obtain ⟨f4, k⟩ := k
    refine Ev.getI (ci := 6) (k := 12) (am_dt kX1_weigh 72 rfl) (by decide) (by decide) rfl wd_334 f4.1 ?_
    obtain ⟨f5, k⟩ := k
    refine Ev.callV (ci := 1) (v := mX1_findResting) (As := [.int x4, .int (hI h2 a3 12)]) (st := []) okX1_findResting wd_339 wd_340 wd_341 (am_dt kX1_weigh 73 rfl) (by decide) rfl rfl (Nat.le_of_ble_eq_true rfl) (Nat.le_of_ble_eq_true rfl) f5.1 ?_
    refine EvM.mono k (fun r7 h6 k => ?_)
    obtain ⟨rfl, k⟩ := k
    show Ev w _ _ _ 150 _ [] _ _
    refine Ev.aload_n 0 (am_dt kX1_weigh 74 rfl) rfl rfl ?_
    refine Ev.iconst (v := 1) (am_dt kX1_weigh 75 rfl) (by decide) ?_
    obtain ⟨f8, k⟩ := k
    refine Ev.putI' (ci := 1) (k := 6) (am_dt kX1_weigh 76 rfl) (by decide) (by decide) wd_332 rfl rfl rfl rfl f8.1 (fun h9 eh9 => ?_)
    have k := k h9 eh9
    have f8 := am_LsI eh9 f8
    exact Ev.vret (am_dt kX1_weigh 77 rfl) rfl k
  · have k := k.2 c
    refine Ev.aload_n 0 (am_dt kX1_weigh 19 rfl) rfl rfl ?_
    refine Ev.aload_n 3 (am_dt kX1_weigh 20 rfl) rfl rfl ?_
    refine Ev.iload 5 (am_dt kX1_weigh 21 rfl) rfl ?_
    obtain ⟨f10, k⟩ := k
    refine Ev.callV (ci := 1) (v := mX1_seat) (As := [.ref a3, .int x5]) (st := []) okX1_seat wd_342 wd_343 wd_344 (am_dt kX1_weigh 22 rfl) (by decide) rfl rfl (Nat.le_of_ble_eq_true rfl) (Nat.le_of_ble_eq_true rfl) f10.1 ?_
    refine EvM.mono k (fun r12 h11 k => ?_)
    obtain ⟨rfl, k⟩ := k
    show Ev w _ _ _ 44 _ [] _ _
    refine Ev.aload_n 2 (am_dt kX1_weigh 23 rfl) rfl rfl ?_
    refine Ev.aload_n 3 (am_dt kX1_weigh 24 rfl) rfl rfl ?_
    refine Ev.aload_n 1 (am_dt kX1_weigh 25 rfl) rfl rfl ?_
    obtain ⟨f13, k⟩ := k
    refine Ev.getI (ci := 7) (k := 2) (am_dt kX1_weigh 26 rfl) (by decide) (by decide) rfl wd_345 f13.1 ?_
    refine Ev.aload_n 3 (am_dt kX1_weigh 27 rfl) rfl rfl ?_
    obtain ⟨f14, k⟩ := k
    refine Ev.getRe (ci := 6) (k := 0) (r := a3 + 1) (am_dt kX1_weigh 28 rfl) (by decide) (by decide) rfl wd_346 f14.1 (am_L.r f14 0 rfl) (by omega) ?_
    refine Ev.aload_n 0 (am_dt kX1_weigh 29 rfl) rfl rfl ?_
    obtain ⟨f15, k⟩ := k
    refine Ev.getRe (ci := 1) (k := 3) (r := a0 + 4) (am_dt kX1_weigh 30 rfl) (by decide) (by decide) rfl wd_331 f15.1 (am_L.r f15 3 rfl) (by omega) ?_
    obtain ⟨f16, k⟩ := k
    refine Ev.callV (ci := 3) (v := mX3_begin) (As := [.ref a3, .int (hI h11 a1 2), .ref (a3 + 1), .ref (a0 + 4)]) (st := []) okX3_begin wd_301 wd_302 wd_347 (am_dt kX1_weigh 31 rfl) (by decide) rfl rfl (Nat.le_of_ble_eq_true rfl) (Nat.le_of_ble_eq_true rfl) f16.1 ?_
    refine EvM.mono k (fun r18 h17 k => ?_)
    obtain ⟨rfl, k⟩ := k
    show Ev w _ _ _ 61 _ [] _ _
    refine Ev.aload_n 2 (am_dt kX1_weigh 32 rfl) rfl rfl ?_
    refine Ev.sipush (v := 1440) (am_dt kX1_weigh 33 rfl) (by decide) ?_
    obtain ⟨f19, k⟩ := k
    refine Ev.callV (ci := 3) (v := mX3_run) (As := [.int 1440]) (st := []) okX3_run wd_304 wd_305 wd_348 (am_dt kX1_weigh 34 rfl) (by decide) rfl rfl (Nat.le_of_ble_eq_true rfl) (Nat.le_of_ble_eq_true rfl) f19.1 ?_
    refine EvM.mono k (fun r21 h20 k => ?_)
    obtain ⟨rfl, k⟩ := k
    show Ev w _ _ _ 68 _ [] _ _
    refine Ev.aload_n 0 (am_dt kX1_weigh 35 rfl) rfl rfl ?_
    obtain ⟨f22, k⟩ := k
    refine Ev.getRe (ci := 1) (k := 0) (r := a0 + 1) (am_dt kX1_weigh 36 rfl) (by decide) (by decide) rfl wd_328 f22.1 (am_L.r f22 0 rfl) (by omega) ?_
    refine Ev.iload 5 (am_dt kX1_weigh 37 rfl) rfl ?_
    refine Ev.aload_n 2 (am_dt kX1_weigh 38 rfl) rfl rfl ?_
    refine Ev.iconst (v := (-1)) (am_dt kX1_weigh 39 rfl) (by decide) ?_
    obtain ⟨f23, k⟩ := k
    refine Ev.callV (ci := 3) (v := mX3_costWithout) (As := [.int ((-1))]) (st := [.int x5, .ref (a0 + 1)]) okX3_costWithout wd_349 wd_350 wd_351 (am_dt kX1_weigh 40 rfl) (by decide) rfl rfl (Nat.le_of_ble_eq_true rfl) (Nat.le_of_ble_eq_true rfl) f23.1 ?_
    refine EvM.mono k (fun r25 h24 k => ?_)
    obtain ⟨v26, rfl, k⟩ := k
    show Ev w _ _ _ 79 _ [.int v26, .int x5, .ref (a0 + 1)] _ _
    refine Ev.callSN (v := mX9_set) (As := [.ref (a0 + 1), .int x5, .int v26]) (st := []) okX9_set wd_16 wd_352 (am_dt kX1_weigh 41 rfl) rfl rfl (Nat.le_of_ble_eq_true rfl) (Nat.le_of_ble_eq_true rfl) ?_
    refine EvM.mono k (fun r28 h27 k => ?_)
    obtain ⟨rfl, k⟩ := k
    show Ev w _ _ _ 82 _ [] _ _
    refine Ev.iconst (v := 0) (am_dt kX1_weigh 42 rfl) (by decide) ?_
    refine Ev.istore (lv' := [(6, .int 0), (0, .ref a0), (1, .ref a1), (2, .ref a2), (3, .ref a3), (4, .int x4), (5, .int x5)]) (am_dt kX1_weigh 43 rfl) (by decide) rfl ?_
    exact Ev.sub [1, 2, 3, 4, 5, 6, 0] rfl k
set_option maxRecDepth 20000 in
set_option maxHeartbeats 2000000 in
theorem bX1_weigh_85 {w : am_W} {d : Nat} {h : am_H} {Q : Option Value → am_H → Prop} {a0 : Nat} {a1 : Nat} {a2 : Nat} {a3 : Nat} {x4 : Int32} {x5 : Int32} {x6 : Int32}  (k : (am_L 6 a3 h) ∧ (((hI h a3 12) ≤ x6 → (Ev w (am_Z w) mX1_weigh (d + 1) 30 [(0, .ref a0), (1, .ref a1), (2, .ref a2), (3, .ref a3), (4, .int x4), (5, .int (x5 + 1))] [] h Q)) ∧ (¬ (hI h a3 12) ≤ x6 → ((am_L 1 a0 h) ∧ (EvM w mX9_get d [.ref (a3 + 9), .int x6] h (fun r4 h3 => ∃ v5 : Int32, r4 = some (.int v5) ∧ ((am_L 3 a2 h3) ∧ (EvM w mX3_costOf d [.ref a2, .int v5] h3 (fun r8 h7 => ∃ v9 : Int32, r8 = some (.int v9) ∧ (EvM w mX9_set d [.ref (a0 + 2), .int ((x5 * 8) + x6), .int v9] h7 (fun r11 h10 => r11 = none ∧ (Ev w (am_Z w) mX1_weigh (d + 1) 85 [(0, .ref a0), (1, .ref a1), (2, .ref a2), (3, .ref a3), (4, .int x4), (5, .int x5), (6, .int (x6 + 1))] [] h10 Q)))))))))))) : Ev w (am_Z w) mX1_weigh (d + 1) 85 [(0, .ref a0), (1, .ref a1), (2, .ref a2), (3, .ref a3), (4, .int x4), (5, .int x5), (6, .int x6)] [] h Q := by
  refine Ev.iload 6 (am_dt kX1_weigh 44 rfl) rfl ?_
  refine Ev.aload_n 3 (am_dt kX1_weigh 45 rfl) rfl rfl ?_
  obtain ⟨f1, k⟩ := k
  refine Ev.getI (ci := 6) (k := 12) (am_dt kX1_weigh 46 rfl) (by decide) (by decide) rfl wd_334 f1.1 ?_
  refine Ev.icmp_ge (tgt := 128) (am_dt kX1_weigh 47 rfl) (by decide) (fun c => ?_) (fun c => ?_)
  · have k := k.1 c
    refine Ev.iinc (v := x5 + 1) (lv' := [(5, .int (x5 + 1)), (0, .ref a0), (1, .ref a1), (2, .ref a2), (3, .ref a3), (4, .int x4), (6, .int x6)]) 5 (am_dt kX1_weigh 64 rfl) rfl rfl (by decide) rfl ?_
    refine Ev.goto (tgt := 30) (am_dt kX1_weigh 65 rfl) (by decide) ?_
    exact Ev.sub [1, 2, 3, 4, 5, 0] rfl k
  · have k := k.2 c
    refine Ev.aload_n 0 (am_dt kX1_weigh 48 rfl) rfl rfl ?_
    obtain ⟨f2, k⟩ := k
    refine Ev.getRe (ci := 1) (k := 1) (r := a0 + 2) (am_dt kX1_weigh 49 rfl) (by decide) (by decide) rfl wd_329 f2.1 (am_L.r f2 1 rfl) (by omega) ?_
    refine Ev.iload 5 (am_dt kX1_weigh 50 rfl) rfl ?_
    refine Ev.bipush (v := 8) (am_dt kX1_weigh 51 rfl) (by decide) ?_
    refine Ev.imul (am_dt kX1_weigh 52 rfl) ?_
    refine Ev.iload 6 (am_dt kX1_weigh 53 rfl) rfl ?_
    refine Ev.iadd (am_dt kX1_weigh 54 rfl) ?_
    refine Ev.aload_n 2 (am_dt kX1_weigh 55 rfl) rfl rfl ?_
    refine Ev.aload_n 3 (am_dt kX1_weigh 56 rfl) rfl rfl ?_
    refine Ev.getRe (ci := 6) (k := 3) (r := a3 + 9) (am_dt kX1_weigh 57 rfl) (by decide) (by decide) rfl wd_353 f1.1 (am_L.r f1 3 rfl) (by omega) ?_
    refine Ev.iload 6 (am_dt kX1_weigh 58 rfl) rfl ?_
    refine Ev.callSN (v := mX9_get) (As := [.ref (a3 + 9), .int x6]) (st := [.ref a2, .int ((x5 * 8) + x6), .ref (a0 + 2)]) okX9_get wd_19 wd_354 (am_dt kX1_weigh 59 rfl) rfl rfl (Nat.le_of_ble_eq_true rfl) (Nat.le_of_ble_eq_true rfl) ?_
    refine EvM.mono k (fun r4 h3 k => ?_)
    obtain ⟨v5, rfl, k⟩ := k
    show Ev w _ _ _ 116 _ [.int v5, .ref a2, .int ((x5 * 8) + x6), .ref (a0 + 2)] _ _
    obtain ⟨f6, k⟩ := k
    refine Ev.callV (ci := 3) (v := mX3_costOf) (As := [.int v5]) (st := [.int ((x5 * 8) + x6), .ref (a0 + 2)]) okX3_costOf wd_279 wd_280 wd_355 (am_dt kX1_weigh 60 rfl) (by decide) rfl rfl (Nat.le_of_ble_eq_true rfl) (Nat.le_of_ble_eq_true rfl) f6.1 ?_
    refine EvM.mono k (fun r8 h7 k => ?_)
    obtain ⟨v9, rfl, k⟩ := k
    show Ev w _ _ _ 119 _ [.int v9, .int ((x5 * 8) + x6), .ref (a0 + 2)] _ _
    refine Ev.callSN (v := mX9_set) (As := [.ref (a0 + 2), .int ((x5 * 8) + x6), .int v9]) (st := []) okX9_set wd_16 wd_352 (am_dt kX1_weigh 61 rfl) rfl rfl (Nat.le_of_ble_eq_true rfl) (Nat.le_of_ble_eq_true rfl) ?_
    refine EvM.mono k (fun r11 h10 k => ?_)
    obtain ⟨rfl, k⟩ := k
    show Ev w _ _ _ 122 _ [] _ _
    refine Ev.iinc (v := x6 + 1) (lv' := [(6, .int (x6 + 1)), (0, .ref a0), (1, .ref a1), (2, .ref a2), (3, .ref a3), (4, .int x4), (5, .int x5)]) 6 (am_dt kX1_weigh 62 rfl) rfl rfl (by decide) rfl ?_
    refine Ev.goto (tgt := 85) (am_dt kX1_weigh 63 rfl) (by decide) ?_
    exact Ev.sub [1, 2, 3, 4, 5, 6, 0] rfl k
set_option maxRecDepth 20000 in
set_option maxHeartbeats 2000000 in
theorem bX1_seat_0 {w : am_W} {d : Nat} {h : am_H} {Q : Option Value → am_H → Prop} {a0 : Nat} {a1 : Nat} {x2 : Int32}  (k : Ev w (am_Z w) mX1_seat (d + 1) 2 [(0, .ref a0), (1, .ref a1), (2, .int x2), (3, .int 0)] [] h Q) : EvM w mX1_seat (d + 1) [.ref a0, .ref a1, .int x2] h Q := by
  show Ev w (am_Z w) mX1_seat (d + 1) 0 [(0, .ref a0), (1, .ref a1), (2, .int x2)] [] h Q
  refine Ev.iconst (v := 0) (am_dt kX1_seat 0 rfl) (by decide) ?_
  refine Ev.istore_n (lv' := [(3, .int 0), (0, .ref a0), (1, .ref a1), (2, .int x2)]) (am_dt kX1_seat 1 rfl) rfl (by decide) rfl ?_
  exact Ev.sub [1, 2, 3, 0] rfl k
set_option maxRecDepth 20000 in
set_option maxHeartbeats 2000000 in
theorem bX1_seat_2 {w : am_W} {d : Nat} {h : am_H} {Q : Option Value → am_H → Prop} {a0 : Nat} {a1 : Nat} {x2 : Int32} {x3 : Int32}  (k : (am_L 6 a1 h) ∧ ((am_L 2 (a1 + 1) h) ∧ (((hI h (a1 + 1) 5) ≤ x3 → (Ev w (am_Z w) mX1_seat (d + 1) 40 [(0, .ref a0), (1, .ref a1), (2, .int x2), (3, .int 0)] [] h Q)) ∧ (¬ (hI h (a1 + 1) 5) ≤ x3 → ((am_L 1 a0 h) ∧ (EvM w mX9_get d [.ref (a1 + 3), .int x3] h (fun r5 h4 => ∃ v6 : Int32, r5 = some (.int v6) ∧ (EvM w mX9_set d [.ref (a0 + 4), .int x3, .int v6] h4 (fun r8 h7 => r8 = none ∧ (Ev w (am_Z w) mX1_seat (d + 1) 2 [(0, .ref a0), (1, .ref a1), (2, .int x2), (3, .int (x3 + 1))] [] h7 Q)))))))))) : Ev w (am_Z w) mX1_seat (d + 1) 2 [(0, .ref a0), (1, .ref a1), (2, .int x2), (3, .int x3)] [] h Q := by
  refine Ev.iload_n 3 (am_dt kX1_seat 2 rfl) rfl rfl ?_
  refine Ev.aload_n 1 (am_dt kX1_seat 3 rfl) rfl rfl ?_
  obtain ⟨f1, k⟩ := k
  refine Ev.getRe (ci := 6) (k := 0) (r := a1 + 1) (am_dt kX1_seat 4 rfl) (by decide) (by decide) rfl wd_346 f1.1 (am_L.r f1 0 rfl) (by omega) ?_
  obtain ⟨f2, k⟩ := k
  refine Ev.getI (ci := 2) (k := 5) (am_dt kX1_seat 5 rfl) (by decide) (by decide) rfl wd_356 f2.1 ?_
  refine Ev.icmp_ge (tgt := 38) (am_dt kX1_seat 6 rfl) (by decide) (fun c => ?_) (fun c => ?_)
  · have k := k.1 c
    refine Ev.iconst (v := 0) (am_dt kX1_seat 18 rfl) (by decide) ?_
    refine Ev.istore_n (lv' := [(3, .int 0), (0, .ref a0), (1, .ref a1), (2, .int x2)]) (am_dt kX1_seat 19 rfl) rfl (by decide) rfl ?_
    exact Ev.sub [1, 2, 3, 0] rfl k
  · have k := k.2 c
    refine Ev.aload_n 0 (am_dt kX1_seat 7 rfl) rfl rfl ?_
    obtain ⟨f3, k⟩ := k
    refine Ev.getRe (ci := 1) (k := 3) (r := a0 + 4) (am_dt kX1_seat 8 rfl) (by decide) (by decide) rfl wd_331 f3.1 (am_L.r f3 3 rfl) (by omega) ?_
    refine Ev.iload_n 3 (am_dt kX1_seat 9 rfl) rfl rfl ?_
    refine Ev.aload_n 1 (am_dt kX1_seat 10 rfl) rfl rfl ?_
    refine Ev.getRe (ci := 6) (k := 0) (r := a1 + 1) (am_dt kX1_seat 11 rfl) (by decide) (by decide) rfl wd_346 f1.1 (am_L.r f1 0 rfl) (by omega) ?_
    refine Ev.getRe (ci := 2) (k := 1) (r := a1 + 3) (am_dt kX1_seat 12 rfl) (by decide) (by decide) rfl wd_357 f2.1 (am_L.r f2 1 rfl) (by omega) ?_
    refine Ev.iload_n 3 (am_dt kX1_seat 13 rfl) rfl rfl ?_
    refine Ev.callSN (v := mX9_get) (As := [.ref (a1 + 3), .int x3]) (st := [.int x3, .ref (a0 + 4)]) okX9_get wd_19 wd_354 (am_dt kX1_seat 14 rfl) rfl rfl (Nat.le_of_ble_eq_true rfl) (Nat.le_of_ble_eq_true rfl) ?_
    refine EvM.mono k (fun r5 h4 k => ?_)
    obtain ⟨v6, rfl, k⟩ := k
    show Ev w _ _ _ 29 _ [.int v6, .int x3, .ref (a0 + 4)] _ _
    refine Ev.callSN (v := mX9_set) (As := [.ref (a0 + 4), .int x3, .int v6]) (st := []) okX9_set wd_16 wd_352 (am_dt kX1_seat 15 rfl) rfl rfl (Nat.le_of_ble_eq_true rfl) (Nat.le_of_ble_eq_true rfl) ?_
    refine EvM.mono k (fun r8 h7 k => ?_)
    obtain ⟨rfl, k⟩ := k
    show Ev w _ _ _ 32 _ [] _ _
    refine Ev.iinc (v := x3 + 1) (lv' := [(3, .int (x3 + 1)), (0, .ref a0), (1, .ref a1), (2, .int x2)]) 3 (am_dt kX1_seat 16 rfl) rfl rfl (by decide) rfl ?_
    refine Ev.goto (tgt := 2) (am_dt kX1_seat 17 rfl) (by decide) ?_
    exact Ev.sub [1, 2, 3, 0] rfl k
set_option maxRecDepth 20000 in
set_option maxHeartbeats 2000000 in
theorem bX1_seat_40 {w : am_W} {d : Nat} {h : am_H} {Q : Option Value → am_H → Prop} {a0 : Nat} {a1 : Nat} {x2 : Int32} {x3 : Int32}  (k : (am_L 6 a1 h) ∧ (((hI h a1 12) ≤ x3 → (Q none h)) ∧ (¬ (hI h a1 12) ≤ x3 → ((am_L 1 a0 h) ∧ (EvM w mX9_get d [.ref (a1 + 9), .int x3] h (fun r4 h3 => ∃ v5 : Int32, r4 = some (.int v5) ∧ (EvM w mX9_set d [.ref (a0 + 4), .int v5, .int ((x2 >>> (x3 &&& 31)) &&& 1)] h3 (fun r7 h6 => r7 = none ∧ (Ev w (am_Z w) mX1_seat (d + 1) 40 [(0, .ref a0), (1, .ref a1), (2, .int x2), (3, .int (x3 + 1))] [] h6 Q))))))))) : Ev w (am_Z w) mX1_seat (d + 1) 40 [(0, .ref a0), (1, .ref a1), (2, .int x2), (3, .int x3)] [] h Q := by
  refine Ev.iload_n 3 (am_dt kX1_seat 20 rfl) rfl rfl ?_
  refine Ev.aload_n 1 (am_dt kX1_seat 21 rfl) rfl rfl ?_
  obtain ⟨f1, k⟩ := k
  refine Ev.getI (ci := 6) (k := 12) (am_dt kX1_seat 22 rfl) (by decide) (by decide) rfl wd_334 f1.1 ?_
  refine Ev.icmp_ge (tgt := 74) (am_dt kX1_seat 23 rfl) (by decide) (fun c => ?_) (fun c => ?_)
  · have k := k.1 c
    exact Ev.vret (am_dt kX1_seat 38 rfl) rfl k
  · have k := k.2 c
    refine Ev.aload_n 0 (am_dt kX1_seat 24 rfl) rfl rfl ?_
    obtain ⟨f2, k⟩ := k
    refine Ev.getRe (ci := 1) (k := 3) (r := a0 + 4) (am_dt kX1_seat 25 rfl) (by decide) (by decide) rfl wd_331 f2.1 (am_L.r f2 3 rfl) (by omega) ?_
    refine Ev.aload_n 1 (am_dt kX1_seat 26 rfl) rfl rfl ?_
    refine Ev.getRe (ci := 6) (k := 3) (r := a1 + 9) (am_dt kX1_seat 27 rfl) (by decide) (by decide) rfl wd_353 f1.1 (am_L.r f1 3 rfl) (by omega) ?_
    refine Ev.iload_n 3 (am_dt kX1_seat 28 rfl) rfl rfl ?_
    refine Ev.callSN (v := mX9_get) (As := [.ref (a1 + 9), .int x3]) (st := [.ref (a0 + 4)]) okX9_get wd_19 wd_354 (am_dt kX1_seat 29 rfl) rfl rfl (Nat.le_of_ble_eq_true rfl) (Nat.le_of_ble_eq_true rfl) ?_
    refine EvM.mono k (fun r4 h3 k => ?_)
    obtain ⟨v5, rfl, k⟩ := k
    show Ev w _ _ _ 60 _ [.int v5, .ref (a0 + 4)] _ _
    refine Ev.iload_n 2 (am_dt kX1_seat 30 rfl) rfl rfl ?_
    refine Ev.iload_n 3 (am_dt kX1_seat 31 rfl) rfl rfl ?_
    refine Ev.ishr (am_dt kX1_seat 32 rfl) ?_
    refine Ev.iconst (v := 1) (am_dt kX1_seat 33 rfl) (by decide) ?_
    refine Ev.iand (am_dt kX1_seat 34 rfl) ?_
    refine Ev.callSN (v := mX9_set) (As := [.ref (a0 + 4), .int v5, .int ((x2 >>> (x3 &&& 31)) &&& 1)]) (st := []) okX9_set wd_16 wd_352 (am_dt kX1_seat 35 rfl) rfl rfl (Nat.le_of_ble_eq_true rfl) (Nat.le_of_ble_eq_true rfl) ?_
    refine EvM.mono k (fun r7 h6 k => ?_)
    obtain ⟨rfl, k⟩ := k
    show Ev w _ _ _ 68 _ [] _ _
    refine Ev.iinc (v := x3 + 1) (lv' := [(3, .int (x3 + 1)), (0, .ref a0), (1, .ref a1), (2, .int x2)]) 3 (am_dt kX1_seat 36 rfl) rfl rfl (by decide) rfl ?_
    refine Ev.goto (tgt := 40) (am_dt kX1_seat 37 rfl) (by decide) ?_
    exact Ev.sub [1, 2, 3, 0] rfl k
set_option maxRecDepth 20000 in
set_option maxHeartbeats 2000000 in
theorem bX1_findCheapest_0 {w : am_W} {d : Nat} {h : am_H} {Q : Option Value → am_H → Prop} {a0 : Nat} {x1 : Int32}  (k : (am_L 1 a0 h) ∧ (∀ h2 : am_H, h2 = sI h a0 4 0 → (Ev w (am_Z w) mX1_findCheapest (d + 1) 7 [(0, .ref a0), (1, .int x1), (2, .int 1)] [] h2 Q))) : EvM w mX1_findCheapest (d + 1) [.ref a0, .int x1] h Q := by
  show Ev w (am_Z w) mX1_findCheapest (d + 1) 0 [(0, .ref a0), (1, .int x1)] [] h Q
  refine Ev.aload_n 0 (am_dt kX1_findCheapest 0 rfl) rfl rfl ?_
  refine Ev.iconst (v := 0) (am_dt kX1_findCheapest 1 rfl) (by decide) ?_
  obtain ⟨f1, k⟩ := k
  refine Ev.putI' (ci := 1) (k := 4) (am_dt kX1_findCheapest 2 rfl) (by decide) (by decide) wd_358 rfl rfl rfl rfl f1.1 (fun h2 eh2 => ?_)
  have k := k h2 eh2
  have f1 := am_LsI eh2 f1
  refine Ev.iconst (v := 1) (am_dt kX1_findCheapest 3 rfl) (by decide) ?_
  refine Ev.istore_n (lv' := [(2, .int 1), (0, .ref a0), (1, .int x1)]) (am_dt kX1_findCheapest 4 rfl) rfl (by decide) rfl ?_
  exact Ev.sub [1, 2, 0] rfl k
set_option maxRecDepth 20000 in
set_option maxHeartbeats 2000000 in
theorem bX1_findCheapest_7 {w : am_W} {d : Nat} {h : am_H} {Q : Option Value → am_H → Prop} {a0 : Nat} {x1 : Int32} {x2 : Int32}  (k : (x1 ≤ x2 → (Q none h)) ∧ (¬ x1 ≤ x2 → ((am_L 1 a0 h) ∧ (EvM w mX9_get d [.ref (a0 + 1), .int x2] h (fun r3 h2 => ∃ v4 : Int32, r3 = some (.int v4) ∧ ((am_L 1 a0 h2) ∧ (EvM w mX9_get d [.ref (a0 + 1), .int (hI h2 a0 4)] h2 (fun r7 h6 => ∃ v8 : Int32, r7 = some (.int v8) ∧ ((v8 ≤ v4 → (Ev w (am_Z w) mX1_findCheapest (d + 1) 7 [(0, .ref a0), (1, .int x1), (2, .int (x2 + 1))] [] h6 Q)) ∧ (¬ v8 ≤ v4 → ((am_L 1 a0 h6) ∧ (∀ h10 : am_H, h10 = sI h6 a0 4 x2 → (Ev w (am_Z w) mX1_findCheapest (d + 1) 7 [(0, .ref a0), (1, .int x1), (2, .int (x2 + 1))] [] h10 Q))))))))))))) : Ev w (am_Z w) mX1_findCheapest (d + 1) 7 [(0, .ref a0), (1, .int x1), (2, .int x2)] [] h Q := by
  refine Ev.iload_n 2 (am_dt kX1_findCheapest 5 rfl) rfl rfl ?_
  refine Ev.iload_n 1 (am_dt kX1_findCheapest 6 rfl) rfl rfl ?_
  refine Ev.icmp_ge (tgt := 45) (am_dt kX1_findCheapest 7 rfl) (by decide) (fun c => ?_) (fun c => ?_)
  · have k := k.1 c
    exact Ev.vret (am_dt kX1_findCheapest 23 rfl) rfl k
  · have k := k.2 c
    refine Ev.aload_n 0 (am_dt kX1_findCheapest 8 rfl) rfl rfl ?_
    obtain ⟨f1, k⟩ := k
    refine Ev.getRe (ci := 1) (k := 0) (r := a0 + 1) (am_dt kX1_findCheapest 9 rfl) (by decide) (by decide) rfl wd_328 f1.1 (am_L.r f1 0 rfl) (by omega) ?_
    refine Ev.iload_n 2 (am_dt kX1_findCheapest 10 rfl) rfl rfl ?_
    refine Ev.callSN (v := mX9_get) (As := [.ref (a0 + 1), .int x2]) (st := []) okX9_get wd_19 wd_354 (am_dt kX1_findCheapest 11 rfl) rfl rfl (Nat.le_of_ble_eq_true rfl) (Nat.le_of_ble_eq_true rfl) ?_
    refine EvM.mono k (fun r3 h2 k => ?_)
    obtain ⟨v4, rfl, k⟩ := k
    show Ev w _ _ _ 20 _ [.int v4] _ _
    refine Ev.aload_n 0 (am_dt kX1_findCheapest 12 rfl) rfl rfl ?_
    obtain ⟨f5, k⟩ := k
    refine Ev.getRe (ci := 1) (k := 0) (r := a0 + 1) (am_dt kX1_findCheapest 13 rfl) (by decide) (by decide) rfl wd_328 f5.1 (am_L.r f5 0 rfl) (by omega) ?_
    refine Ev.aload_n 0 (am_dt kX1_findCheapest 14 rfl) rfl rfl ?_
    refine Ev.getI (ci := 1) (k := 4) (am_dt kX1_findCheapest 15 rfl) (by decide) (by decide) rfl wd_358 f5.1 ?_
    refine Ev.callSN (v := mX9_get) (As := [.ref (a0 + 1), .int (hI h2 a0 4)]) (st := [.int v4]) okX9_get wd_19 wd_354 (am_dt kX1_findCheapest 16 rfl) rfl rfl (Nat.le_of_ble_eq_true rfl) (Nat.le_of_ble_eq_true rfl) ?_
    refine EvM.mono k (fun r7 h6 k => ?_)
    obtain ⟨v8, rfl, k⟩ := k
    show Ev w _ _ _ 31 _ [.int v8, .int v4] _ _
    refine Ev.icmp_ge (tgt := 39) (am_dt kX1_findCheapest 17 rfl) (by decide) (fun c => ?_) (fun c => ?_)
    · have k := k.1 c
      refine Ev.iinc (v := x2 + 1) (lv' := [(2, .int (x2 + 1)), (0, .ref a0), (1, .int x1)]) 2 (am_dt kX1_findCheapest 21 rfl) rfl rfl (by decide) rfl ?_
      refine Ev.goto (tgt := 7) (am_dt kX1_findCheapest 22 rfl) (by decide) ?_
      exact Ev.sub [1, 2, 0] rfl k
    · have k := k.2 c
      refine Ev.aload_n 0 (am_dt kX1_findCheapest 18 rfl) rfl rfl ?_
      refine Ev.iload_n 2 (am_dt kX1_findCheapest 19 rfl) rfl rfl ?_
      obtain ⟨f9, k⟩ := k
      refine Ev.putI' (ci := 1) (k := 4) (am_dt kX1_findCheapest 20 rfl) (by decide) (by decide) wd_358 rfl rfl rfl rfl f9.1 (fun h10 eh10 => ?_)
      have k := k h10 eh10
      have f9 := am_LsI eh10 f9
      refine Ev.iinc (v := x2 + 1) (lv' := [(2, .int (x2 + 1)), (0, .ref a0), (1, .int x1)]) 2 (am_dt kX1_findCheapest 21 rfl) rfl rfl (by decide) rfl ?_
      refine Ev.goto (tgt := 7) (am_dt kX1_findCheapest 22 rfl) (by decide) ?_
      exact Ev.sub [1, 2, 0] rfl k
set_option maxRecDepth 20000 in
set_option maxHeartbeats 2000000 in
theorem bX1_findResting_0 {w : am_W} {d : Nat} {h : am_H} {Q : Option Value → am_H → Prop} {a0 : Nat} {x1 : Int32} {x2 : Int32}  (k : (am_L 1 a0 h) ∧ (∀ h2 : am_H, h2 = sI h a0 5 0 → (Ev w (am_Z w) mX1_findResting (d + 1) 7 [(0, .ref a0), (1, .int x1), (2, .int x2), (3, .int 0)] [] h2 Q))) : EvM w mX1_findResting (d + 1) [.ref a0, .int x1, .int x2] h Q := by
  show Ev w (am_Z w) mX1_findResting (d + 1) 0 [(0, .ref a0), (1, .int x1), (2, .int x2)] [] h Q
  refine Ev.aload_n 0 (am_dt kX1_findResting 0 rfl) rfl rfl ?_
  refine Ev.iconst (v := 0) (am_dt kX1_findResting 1 rfl) (by decide) ?_
  obtain ⟨f1, k⟩ := k
  refine Ev.putI' (ci := 1) (k := 5) (am_dt kX1_findResting 2 rfl) (by decide) (by decide) wd_359 rfl rfl rfl rfl f1.1 (fun h2 eh2 => ?_)
  have k := k h2 eh2
  have f1 := am_LsI eh2 f1
  refine Ev.iconst (v := 0) (am_dt kX1_findResting 3 rfl) (by decide) ?_
  refine Ev.istore_n (lv' := [(3, .int 0), (0, .ref a0), (1, .int x1), (2, .int x2)]) (am_dt kX1_findResting 4 rfl) rfl (by decide) rfl ?_
  exact Ev.sub [1, 2, 3, 0] rfl k
set_option maxRecDepth 20000 in
set_option maxHeartbeats 2000000 in
theorem bX1_findResting_7 {w : am_W} {d : Nat} {h : am_H} {Q : Option Value → am_H → Prop} {a0 : Nat} {x1 : Int32} {x2 : Int32} {x3 : Int32}  (k : (x1 ≤ x3 → (Q none h)) ∧ (¬ x1 ≤ x3 → ((am_L 1 a0 h) ∧ (EvM w mX1_isAtRest d [.ref a0, .int x3, .int x2] h (fun r3 h2 => ∃ v4 : Int32, r3 = some (.int v4) ∧ ((v4 = 0 → (Ev w (am_Z w) mX1_findResting (d + 1) 7 [(0, .ref a0), (1, .int x1), (2, .int x2), (3, .int (x3 + 1))] [] h2 Q)) ∧ (¬ v4 = 0 → ((am_L 1 a0 h2) ∧ (EvM w mX9_set d [.ref (a0 + 3), .int (hI h2 a0 5), .int x3] h2 (fun r7 h6 => r7 = none ∧ ((am_L 1 a0 h6) ∧ (∀ h9 : am_H, h9 = sI h6 a0 5 ((hI h6 a0 5) + 1) → (Ev w (am_Z w) mX1_findResting (d + 1) 7 [(0, .ref a0), (1, .int x1), (2, .int x2), (3, .int (x3 + 1))] [] h9 Q))))))))))))) : Ev w (am_Z w) mX1_findResting (d + 1) 7 [(0, .ref a0), (1, .int x1), (2, .int x2), (3, .int x3)] [] h Q := by
  refine Ev.iload_n 3 (am_dt kX1_findResting 5 rfl) rfl rfl ?_
  refine Ev.iload_n 1 (am_dt kX1_findResting 6 rfl) rfl rfl ?_
  refine Ev.icmp_ge (tgt := 49) (am_dt kX1_findResting 7 rfl) (by decide) (fun c => ?_) (fun c => ?_)
  · have k := k.1 c
    exact Ev.vret (am_dt kX1_findResting 27 rfl) rfl k
  · have k := k.2 c
    refine Ev.aload_n 0 (am_dt kX1_findResting 8 rfl) rfl rfl ?_
    refine Ev.iload_n 3 (am_dt kX1_findResting 9 rfl) rfl rfl ?_
    refine Ev.iload_n 2 (am_dt kX1_findResting 10 rfl) rfl rfl ?_
    obtain ⟨f1, k⟩ := k
    refine Ev.callV (ci := 1) (v := mX1_isAtRest) (As := [.int x3, .int x2]) (st := []) okX1_isAtRest wd_360 wd_361 wd_362 (am_dt kX1_findResting 11 rfl) (by decide) rfl rfl (Nat.le_of_ble_eq_true rfl) (Nat.le_of_ble_eq_true rfl) f1.1 ?_
    refine EvM.mono k (fun r3 h2 k => ?_)
    obtain ⟨v4, rfl, k⟩ := k
    show Ev w _ _ _ 18 _ [.int v4] _ _
    refine Ev.if_eq (tgt := 43) (am_dt kX1_findResting 12 rfl) (by decide) (fun c => ?_) (fun c => ?_)
    · have k := k.1 c
      refine Ev.iinc (v := x3 + 1) (lv' := [(3, .int (x3 + 1)), (0, .ref a0), (1, .int x1), (2, .int x2)]) 3 (am_dt kX1_findResting 25 rfl) rfl rfl (by decide) rfl ?_
      refine Ev.goto (tgt := 7) (am_dt kX1_findResting 26 rfl) (by decide) ?_
      exact Ev.sub [1, 2, 3, 0] rfl k
    · have k := k.2 c
      refine Ev.aload_n 0 (am_dt kX1_findResting 13 rfl) rfl rfl ?_
      obtain ⟨f5, k⟩ := k
      refine Ev.getRe (ci := 1) (k := 2) (r := a0 + 3) (am_dt kX1_findResting 14 rfl) (by decide) (by decide) rfl wd_330 f5.1 (am_L.r f5 2 rfl) (by omega) ?_
      refine Ev.aload_n 0 (am_dt kX1_findResting 15 rfl) rfl rfl ?_
      refine Ev.getI (ci := 1) (k := 5) (am_dt kX1_findResting 16 rfl) (by decide) (by decide) rfl wd_359 f5.1 ?_
      refine Ev.iload_n 3 (am_dt kX1_findResting 17 rfl) rfl rfl ?_
      refine Ev.callSN (v := mX9_set) (As := [.ref (a0 + 3), .int (hI h2 a0 5), .int x3]) (st := []) okX9_set wd_16 wd_352 (am_dt kX1_findResting 18 rfl) rfl rfl (Nat.le_of_ble_eq_true rfl) (Nat.le_of_ble_eq_true rfl) ?_
      refine EvM.mono k (fun r7 h6 k => ?_)
      obtain ⟨rfl, k⟩ := k
      show Ev w _ _ _ 33 _ [] _ _
      refine Ev.aload_n 0 (am_dt kX1_findResting 19 rfl) rfl rfl ?_
      refine Ev.dup (am_dt kX1_findResting 20 rfl) rfl ?_
      obtain ⟨f8, k⟩ := k
      refine Ev.getI (ci := 1) (k := 5) (am_dt kX1_findResting 21 rfl) (by decide) (by decide) rfl wd_359 f8.1 ?_
      refine Ev.iconst (v := 1) (am_dt kX1_findResting 22 rfl) (by decide) ?_
      refine Ev.iadd (am_dt kX1_findResting 23 rfl) ?_
      refine Ev.putI' (ci := 1) (k := 5) (am_dt kX1_findResting 24 rfl) (by decide) (by decide) wd_359 rfl rfl rfl rfl f8.1 (fun h9 eh9 => ?_)
      have k := k h9 eh9
      have f8 := am_LsI eh9 f8
      refine Ev.iinc (v := x3 + 1) (lv' := [(3, .int (x3 + 1)), (0, .ref a0), (1, .int x1), (2, .int x2)]) 3 (am_dt kX1_findResting 25 rfl) rfl rfl (by decide) rfl ?_
      refine Ev.goto (tgt := 7) (am_dt kX1_findResting 26 rfl) (by decide) ?_
      exact Ev.sub [1, 2, 3, 0] rfl k
set_option maxRecDepth 20000 in
set_option maxHeartbeats 2000000 in
theorem bX1_isAtRest_0 {w : am_W} {d : Nat} {h : am_H} {Q : Option Value → am_H → Prop} {a0 : Nat} {x1 : Int32} {x2 : Int32}  (k : Ev w (am_Z w) mX1_isAtRest (d + 1) 2 [(0, .ref a0), (1, .int x1), (2, .int x2), (3, .int 0)] [] h Q) : EvM w mX1_isAtRest (d + 1) [.ref a0, .int x1, .int x2] h Q := by
  show Ev w (am_Z w) mX1_isAtRest (d + 1) 0 [(0, .ref a0), (1, .int x1), (2, .int x2)] [] h Q
  refine Ev.iconst (v := 0) (am_dt kX1_isAtRest 0 rfl) (by decide) ?_
  refine Ev.istore_n (lv' := [(3, .int 0), (0, .ref a0), (1, .int x1), (2, .int x2)]) (am_dt kX1_isAtRest 1 rfl) rfl (by decide) rfl ?_
  exact Ev.sub [1, 2, 3, 0] rfl k
set_option maxRecDepth 20000 in
set_option maxHeartbeats 2000000 in
theorem bX1_isAtRest_2 {w : am_W} {d : Nat} {h : am_H} {Q : Option Value → am_H → Prop} {a0 : Nat} {x1 : Int32} {x2 : Int32} {x3 : Int32}  (k : (x2 ≤ x3 → (Q (some (.int 1)) h)) ∧ (¬ x2 ≤ x3 → ((am_L 1 a0 h) ∧ (EvM w mX9_get d [.ref (a0 + 2), .int (((x1 ^^^ ((1 : Int32) <<< (x3 &&& 31))) * 8) + x3)] h (fun r3 h2 => ∃ v4 : Int32, r3 = some (.int v4) ∧ ((am_L 1 a0 h2) ∧ (EvM w mX9_get d [.ref (a0 + 2), .int ((x1 * 8) + x3)] h2 (fun r7 h6 => ∃ v8 : Int32, r7 = some (.int v8) ∧ ((v8 ≤ v4 → (Ev w (am_Z w) mX1_isAtRest (d + 1) 2 [(0, .ref a0), (1, .int x1), (2, .int x2), (3, .int (x3 + 1))] [] h6 Q)) ∧ (¬ v8 ≤ v4 → (Q (some (.int 0)) h6))))))))))) : Ev w (am_Z w) mX1_isAtRest (d + 1) 2 [(0, .ref a0), (1, .int x1), (2, .int x2), (3, .int x3)] [] h Q := by
  refine Ev.iload_n 3 (am_dt kX1_isAtRest 2 rfl) rfl rfl ?_
  refine Ev.iload_n 2 (am_dt kX1_isAtRest 3 rfl) rfl rfl ?_
  refine Ev.icmp_ge (tgt := 52) (am_dt kX1_isAtRest 4 rfl) (by decide) (fun c => ?_) (fun c => ?_)
  · have k := k.1 c
    refine Ev.iconst (v := 1) (am_dt kX1_isAtRest 32 rfl) (by decide) ?_
    exact Ev.iret .boolean (am_dt kX1_isAtRest 33 rfl) rfl rfl k
  · have k := k.2 c
    refine Ev.iload_n 1 (am_dt kX1_isAtRest 5 rfl) rfl rfl ?_
    refine Ev.iconst (v := 1) (am_dt kX1_isAtRest 6 rfl) (by decide) ?_
    refine Ev.iload_n 3 (am_dt kX1_isAtRest 7 rfl) rfl rfl ?_
    refine Ev.ishl (am_dt kX1_isAtRest 8 rfl) ?_
    refine Ev.ixor (am_dt kX1_isAtRest 9 rfl) ?_
    refine Ev.istore (lv' := [(4, .int (x1 ^^^ ((1 : Int32) <<< (x3 &&& 31)))), (0, .ref a0), (1, .int x1), (2, .int x2), (3, .int x3)]) (am_dt kX1_isAtRest 10 rfl) (by decide) rfl ?_
    refine Ev.aload_n 1 (am_dt kX1_isAtRest 11 rfl) rfl rfl ?_
    obtain ⟨f1, k⟩ := k
    refine Ev.getRe (ci := 1) (k := 1) (r := a0 + 2) (am_dt kX1_isAtRest 12 rfl) (by decide) (by decide) rfl wd_329 f1.1 (am_L.r f1 1 rfl) (by omega) ?_
    refine Ev.iload 0 (am_dt kX1_isAtRest 13 rfl) rfl ?_
    refine Ev.bipush (v := 8) (am_dt kX1_isAtRest 14 rfl) (by decide) ?_
    refine Ev.imul (am_dt kX1_isAtRest 15 rfl) ?_
    refine Ev.iload_n 4 (am_dt kX1_isAtRest 16 rfl) rfl rfl ?_
    refine Ev.iadd (am_dt kX1_isAtRest 17 rfl) ?_
    refine Ev.callSN (v := mX9_get) (As := [.ref (a0 + 2), .int (((x1 ^^^ ((1 : Int32) <<< (x3 &&& 31))) * 8) + x3)]) (st := []) okX9_get wd_19 wd_354 (am_dt kX1_isAtRest 18 rfl) rfl rfl (Nat.le_of_ble_eq_true rfl) (Nat.le_of_ble_eq_true rfl) ?_
    refine EvM.mono k (fun r3 h2 k => ?_)
    obtain ⟨v4, rfl, k⟩ := k
    show Ev w _ _ _ 28 _ [.int v4] _ _
    refine Ev.aload_n 1 (am_dt kX1_isAtRest 19 rfl) rfl rfl ?_
    obtain ⟨f5, k⟩ := k
    refine Ev.getRe (ci := 1) (k := 1) (r := a0 + 2) (am_dt kX1_isAtRest 20 rfl) (by decide) (by decide) rfl wd_329 f5.1 (am_L.r f5 1 rfl) (by omega) ?_
    refine Ev.iload_n 2 (am_dt kX1_isAtRest 21 rfl) rfl rfl ?_
    refine Ev.bipush (v := 8) (am_dt kX1_isAtRest 22 rfl) (by decide) ?_
    refine Ev.imul (am_dt kX1_isAtRest 23 rfl) ?_
    refine Ev.iload_n 4 (am_dt kX1_isAtRest 24 rfl) rfl rfl ?_
    refine Ev.iadd (am_dt kX1_isAtRest 25 rfl) ?_
    refine Ev.callSN (v := mX9_get) (As := [.ref (a0 + 2), .int ((x1 * 8) + x3)]) (st := [.int v4]) okX9_get wd_19 wd_354 (am_dt kX1_isAtRest 26 rfl) rfl rfl (Nat.le_of_ble_eq_true rfl) (Nat.le_of_ble_eq_true rfl) ?_
    refine EvM.mono k (fun r7 h6 k => ?_)
    obtain ⟨v8, rfl, k⟩ := k
    show Ev w _ _ _ 41 _ [.int v8, .int v4] _ _
    refine Ev.icmp_ge (tgt := 46) (am_dt kX1_isAtRest 27 rfl) (by decide) (fun c => ?_) (fun c => ?_)
    · have k := k.1 c
      refine Ev.iinc (v := x3 + 1) (lv' := [(3, .int (x3 + 1)), (4, .int (x1 ^^^ ((1 : Int32) <<< (x3 &&& 31)))), (0, .ref a0), (1, .int x1), (2, .int x2)]) 4 (am_dt kX1_isAtRest 30 rfl) rfl rfl (by decide) rfl ?_
      refine Ev.goto (tgt := 2) (am_dt kX1_isAtRest 31 rfl) (by decide) ?_
      exact Ev.sub [2, 3, 4, 0] rfl k
    · have k := k.2 c
      refine Ev.iconst (v := 0) (am_dt kX1_isAtRest 28 rfl) (by decide) ?_
      exact Ev.iret .boolean (am_dt kX1_isAtRest 29 rfl) rfl rfl k
