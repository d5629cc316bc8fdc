set_option maxRecDepth 20000 in
set_option maxHeartbeats 2000000 in
theorem bX2_init_0 {w : am_W} {d : Nat} {h : am_H} {Q : Option Value → am_H → Prop} {a0 : Nat} {x1 : Int32}  (k : (¬ (if 0 < x1 then x1 else 0) < 0 ∧ Int32.toNatClampNeg (if 0 < x1 then x1 else 0) ≤ 50000000) ∧ (∀ h1 : am_H, h1 = nA h 12 (Int32.toNatClampNeg (if 0 < x1 then x1 else 0)) → ((hK h1 a0 = 2) ∧ ((hZ h ≠ 0) ∧ (∀ h5 : am_H, h5 = sR h1 a0 0 (hZ h) → ((¬ (if 0 < x1 then x1 else 0) < 0 ∧ Int32.toNatClampNeg (if 0 < x1 then x1 else 0) ≤ 50000000) ∧ (∀ h6 : am_H, h6 = nA h5 12 (Int32.toNatClampNeg (if 0 < x1 then x1 else 0)) → ((hK h6 a0 = 2) ∧ ((hZ h5 ≠ 0) ∧ (∀ h10 : am_H, h10 = sR h6 a0 1 (hZ h5) → ((¬ (if 0 < x1 then x1 else 0) < 0 ∧ Int32.toNatClampNeg (if 0 < x1 then x1 else 0) ≤ 50000000) ∧ (∀ h11 : am_H, h11 = nA h10 12 (Int32.toNatClampNeg (if 0 < x1 then x1 else 0)) → ((hK h11 a0 = 2) ∧ ((hZ h10 ≠ 0) ∧ (∀ h15 : am_H, h15 = sR h11 a0 2 (hZ h10) → ((¬ (if 0 < x1 then x1 else 0) < 0 ∧ Int32.toNatClampNeg (if 0 < x1 then x1 else 0) ≤ 50000000) ∧ (∀ h16 : am_H, h16 = nA h15 12 (Int32.toNatClampNeg (if 0 < x1 then x1 else 0)) → ((hK h16 a0 = 2) ∧ ((hZ h15 ≠ 0) ∧ (∀ h20 : am_H, h20 = sR h16 a0 3 (hZ h15) → ((¬ (if 0 < x1 then x1 else 0) < 0 ∧ Int32.toNatClampNeg (if 0 < x1 then x1 else 0) ≤ 50000000) ∧ (∀ h21 : am_H, h21 = nA h20 12 (Int32.toNatClampNeg (if 0 < x1 then x1 else 0)) → ((hK h21 a0 = 2) ∧ ((hZ h20 ≠ 0) ∧ (∀ h25 : am_H, h25 = sR h21 a0 4 (hZ h20) → (Q none h25)))))))))))))))))))))))))) : EvM w mX2_init (d + 1) [.ref a0, .int x1] h Q := by
  show Ev w (am_Z w) mX2_init (d + 1) 0 [(0, .ref a0), (1, .int x1)] [] h Q
  refine Ev.aload_n 0 (am_dt kX2_init 0 rfl) rfl rfl ?_
  refine Ev.objI wd_24 wd_2 wd_3 (am_dt kX2_init 1 rfl) (Nat.le_of_ble_eq_true rfl) ?_
  refine Ev.iconst (v := 0) (am_dt kX2_init 2 rfl) (by decide) ?_
  refine Ev.iload_n 1 (am_dt kX2_init 3 rfl) rfl rfl ?_
  refine Ev.mmax wd_25 wd_5 wd_6 wd_7 (am_dt kX2_init 4 rfl) (Nat.le_of_ble_eq_true rfl) ?_
  refine Ev.istore_n (lv' := [(2, .int (if 0 < x1 then x1 else 0)), (0, .ref a0), (1, .int x1)]) (am_dt kX2_init 5 rfl) rfl (by decide) rfl ?_
  refine Ev.aload_n 1 (am_dt kX2_init 6 rfl) rfl rfl ?_
  refine Ev.iload_n 0 (am_dt kX2_init 7 rfl) rfl rfl ?_
  obtain ⟨f2, k⟩ := k
  refine Ev.newI' (N := (Int32.toNatClampNeg (if 0 < x1 then x1 else 0))) (am_dt kX2_init 8 rfl) wd_9 f2.1 rfl (by have := f2.2; omega) (fun h1 eh1 => ?_)
  have k := k h1 eh1
  obtain ⟨f3, k⟩ := k
  obtain ⟨f4, k⟩ := k
  refine Ev.putRF' (ci := 2) (k := 0) (am_dt kX2_init 9 rfl) (by decide) (by decide) wd_26 rfl rfl rfl rfl rfl rfl f4 f3 (fun h5 eh5 => ?_)
  have k := k h5 eh5
  have f3 := kR eh5 f3
  refine Ev.aload_n 1 (am_dt kX2_init 10 rfl) rfl rfl ?_
  refine Ev.iload_n 0 (am_dt kX2_init 11 rfl) rfl rfl ?_
  obtain ⟨f7, k⟩ := k
  refine Ev.newI' (N := (Int32.toNatClampNeg (if 0 < x1 then x1 else 0))) (am_dt kX2_init 12 rfl) wd_9 f7.1 rfl (by have := f7.2; omega) (fun h6 eh6 => ?_)
  have k := k h6 eh6
  obtain ⟨f8, k⟩ := k
  obtain ⟨f9, k⟩ := k
  refine Ev.putRF' (ci := 2) (k := 1) (am_dt kX2_init 13 rfl) (by decide) (by decide) wd_27 rfl rfl rfl rfl rfl rfl f9 f8 (fun h10 eh10 => ?_)
  have k := k h10 eh10
  have f8 := kR eh10 f8
  refine Ev.aload_n 1 (am_dt kX2_init 14 rfl) rfl rfl ?_
  refine Ev.iload_n 0 (am_dt kX2_init 15 rfl) rfl rfl ?_
  obtain ⟨f12, k⟩ := k
  refine Ev.newI' (N := (Int32.toNatClampNeg (if 0 < x1 then x1 else 0))) (am_dt kX2_init 16 rfl) wd_9 f12.1 rfl (by have := f12.2; omega) (fun h11 eh11 => ?_)
  have k := k h11 eh11
  obtain ⟨f13, k⟩ := k
  obtain ⟨f14, k⟩ := k
  refine Ev.putRF' (ci := 2) (k := 2) (am_dt kX2_init 17 rfl) (by decide) (by decide) wd_28 rfl rfl rfl rfl rfl rfl f14 f13 (fun h15 eh15 => ?_)
  have k := k h15 eh15
  have f13 := kR eh15 f13
  refine Ev.aload_n 1 (am_dt kX2_init 18 rfl) rfl rfl ?_
  refine Ev.iload_n 0 (am_dt kX2_init 19 rfl) rfl rfl ?_
  obtain ⟨f17, k⟩ := k
  refine Ev.newI' (N := (Int32.toNatClampNeg (if 0 < x1 then x1 else 0))) (am_dt kX2_init 20 rfl) wd_9 f17.1 rfl (by have := f17.2; omega) (fun h16 eh16 => ?_)
  have k := k h16 eh16
  obtain ⟨f18, k⟩ := k
  obtain ⟨f19, k⟩ := k
  refine Ev.putRF' (ci := 2) (k := 3) (am_dt kX2_init 21 rfl) (by decide) (by decide) wd_29 rfl rfl rfl rfl rfl rfl f19 f18 (fun h20 eh20 => ?_)
  have k := k h20 eh20
  have f18 := kR eh20 f18
  refine Ev.aload_n 1 (am_dt kX2_init 22 rfl) rfl rfl ?_
  refine Ev.iload_n 0 (am_dt kX2_init 23 rfl) rfl rfl ?_
  obtain ⟨f22, k⟩ := k
  refine Ev.newI' (N := (Int32.toNatClampNeg (if 0 < x1 then x1 else 0))) (am_dt kX2_init 24 rfl) wd_9 f22.1 rfl (by have := f22.2; omega) (fun h21 eh21 => ?_)
  have k := k h21 eh21
  obtain ⟨f23, k⟩ := k
  obtain ⟨f24, k⟩ := k
  refine Ev.putRF' (ci := 2) (k := 4) (am_dt kX2_init 25 rfl) (by decide) (by decide) wd_30 rfl rfl rfl rfl rfl rfl f24 f23 (fun h25 eh25 => ?_)
  have k := k h25 eh25
  have f23 := kR eh25 f23
  exact Ev.vret (am_dt kX2_init 26 rfl) rfl k
set_option maxRecDepth 20000 in
set_option maxHeartbeats 2000000 in
theorem bX2_add_0 {w : am_W} {d : Nat} {h : am_H} {Q : Option Value → am_H → Prop} {a0 : Nat} {x1 : Int32} {x2 : Int32} {x3 : Int32} {x4 : Int32}  (k : (am_L 2 a0 h) ∧ (((hI h a0 5) < (nI (hN h (a0 + 5))) → (EvM w mX9_set d [.ref (a0 + 1), .int (hI h a0 5), .int x1] h (fun r3 h2 => r3 = none ∧ ((am_L 2 a0 h2) ∧ (EvM w mX9_set d [.ref (a0 + 2), .int (hI h2 a0 5), .int x2] h2 (fun r6 h5 => r6 = none ∧ ((am_L 2 a0 h5) ∧ (EvM w mX9_set d [.ref (a0 + 3), .int (hI h5 a0 5), .int x3] h5 (fun r9 h8 => r9 = none ∧ ((am_L 2 a0 h8) ∧ (EvM w mX9_set d [.ref (a0 + 4), .int (hI h8 a0 5), .int x4] h8 (fun r12 h11 => r12 = none ∧ ((am_L 2 a0 h11) ∧ (Ev w (am_Z w) mX2_add (d + 1) 68 [(0, .ref a0), (1, .int x1), (5, .int (hI h11 a0 5))] [] h11 Q)))))))))))))) ∧ (¬ (hI h a0 5) < (nI (hN h (a0 + 5))) → (Q none h)))) : EvM w mX2_add (d + 1) [.ref a0, .int x1, .int x2, .int x3, .int x4] h Q := by
  show Ev w (am_Z w) mX2_add (d + 1) 0 [(0, .ref a0), (1, .int x1), (2, .int x2), (3, .int x3), (4, .int x4)] [] h Q
  refine Ev.aload_n 0 (am_dt kX2_add 0 rfl) rfl rfl ?_
  obtain ⟨f1, k⟩ := k
  refine Ev.getI (ci := 2) (k := 5) (am_dt kX2_add 1 rfl) (by decide) (by decide) rfl wd_31 f1.1 ?_
  refine Ev.aload_n 0 (am_dt kX2_add 2 rfl) rfl rfl ?_
  refine Ev.getRe (ci := 2) (k := 4) (r := a0 + 5) (am_dt kX2_add 3 rfl) (by decide) (by decide) rfl wd_30 f1.1 (am_L.r f1 4 rfl) (by omega) ?_
  refine Ev.alen 12 (am_dt kX2_add 4 rfl) (by decide) (by decide) (am_L.s f1 4 rfl) ?_
  refine Ev.icmp_lt (tgt := 13) (am_dt kX2_add 5 rfl) (by decide) (fun c => ?_) (fun c => ?_)
  · have k := k.1 c
    refine Ev.aload_n 0 (am_dt kX2_add 7 rfl) rfl rfl ?_
    refine Ev.getRe (ci := 2) (k := 0) (r := a0 + 1) (am_dt kX2_add 8 rfl) (by decide) (by decide) rfl wd_26 f1.1 (am_L.r f1 0 rfl) (by omega) ?_
    refine Ev.aload_n 0 (am_dt kX2_add 9 rfl) rfl rfl ?_
    refine Ev.getI (ci := 2) (k := 5) (am_dt kX2_add 10 rfl) (by decide) (by decide) rfl wd_31 f1.1 ?_
    refine Ev.iload_n 1 (am_dt kX2_add 11 rfl) rfl rfl ?_
    refine Ev.callSN (v := mX9_set) (As := [.ref (a0 + 1), .int (hI h a0 5), .int x1]) (st := []) okX9_set wd_16 wd_32 (am_dt kX2_add 12 rfl) rfl rfl (Nat.le_of_ble_eq_true rfl) (Nat.le_of_ble_eq_true rfl) ?_
    refine EvM.mono k (fun r3 h2 k => ?_)
    obtain ⟨rfl, k⟩ := k
    show Ev w _ _ _ 25 _ [] _ _
    refine Ev.aload_n 0 (am_dt kX2_add 13 rfl) rfl rfl ?_
    obtain ⟨f4, k⟩ := k
    refine Ev.getRe (ci := 2) (k := 1) (r := a0 + 2) (am_dt kX2_add 14 rfl) (by decide) (by decide) rfl wd_27 f4.1 (am_L.r f4 1 rfl) (by omega) ?_
    refine Ev.aload_n 0 (am_dt kX2_add 15 rfl) rfl rfl ?_
    refine Ev.getI (ci := 2) (k := 5) (am_dt kX2_add 16 rfl) (by decide) (by decide) rfl wd_31 f4.1 ?_
    refine Ev.iload_n 2 (am_dt kX2_add 17 rfl) rfl rfl ?_
    refine Ev.callSN (v := mX9_set) (As := [.ref (a0 + 2), .int (hI h2 a0 5), .int x2]) (st := []) okX9_set wd_16 wd_32 (am_dt kX2_add 18 rfl) rfl rfl (Nat.le_of_ble_eq_true rfl) (Nat.le_of_ble_eq_true rfl) ?_
    refine EvM.mono k (fun r6 h5 k => ?_)
    obtain ⟨rfl, k⟩ := k
    show Ev w _ _ _ 37 _ [] _ _
    refine Ev.aload_n 0 (am_dt kX2_add 19 rfl) rfl rfl ?_
    obtain ⟨f7, k⟩ := k
    refine Ev.getRe (ci := 2) (k := 2) (r := a0 + 3) (am_dt kX2_add 20 rfl) (by decide) (by decide) rfl wd_28 f7.1 (am_L.r f7 2 rfl) (by omega) ?_
    refine Ev.aload_n 0 (am_dt kX2_add 21 rfl) rfl rfl ?_
    refine Ev.getI (ci := 2) (k := 5) (am_dt kX2_add 22 rfl) (by decide) (by decide) rfl wd_31 f7.1 ?_
    refine Ev.iload_n 3 (am_dt kX2_add 23 rfl) rfl rfl ?_
    refine Ev.callSN (v := mX9_set) (As := [.ref (a0 + 3), .int (hI h5 a0 5), .int x3]) (st := []) okX9_set wd_16 wd_32 (am_dt kX2_add 24 rfl) rfl rfl (Nat.le_of_ble_eq_true rfl) (Nat.le_of_ble_eq_true rfl) ?_
    refine EvM.mono k (fun r9 h8 k => ?_)
    obtain ⟨rfl, k⟩ := k
    show Ev w _ _ _ 49 _ [] _ _
    refine Ev.aload_n 0 (am_dt kX2_add 25 rfl) rfl rfl ?_
    obtain ⟨f10, k⟩ := k
    refine Ev.getRe (ci := 2) (k := 3) (r := a0 + 4) (am_dt kX2_add 26 rfl) (by decide) (by decide) rfl wd_29 f10.1 (am_L.r f10 3 rfl) (by omega) ?_
    refine Ev.aload_n 0 (am_dt kX2_add 27 rfl) rfl rfl ?_
    refine Ev.getI (ci := 2) (k := 5) (am_dt kX2_add 28 rfl) (by decide) (by decide) rfl wd_31 f10.1 ?_
    refine Ev.iload 4 (am_dt kX2_add 29 rfl) rfl ?_
    refine Ev.callSN (v := mX9_set) (As := [.ref (a0 + 4), .int (hI h8 a0 5), .int x4]) (st := []) okX9_set wd_16 wd_32 (am_dt kX2_add 30 rfl) rfl rfl (Nat.le_of_ble_eq_true rfl) (Nat.le_of_ble_eq_true rfl) ?_
    refine EvM.mono k (fun r12 h11 k => ?_)
    obtain ⟨rfl, k⟩ := k
    show Ev w _ _ _ 62 _ [] _ _
    refine Ev.aload_n 0 (am_dt kX2_add 31 rfl) rfl rfl ?_
    obtain ⟨f13, k⟩ := k
    refine Ev.getI (ci := 2) (k := 5) (am_dt kX2_add 32 rfl) (by decide) (by decide) rfl wd_31 f13.1 ?_
    refine Ev.istore (lv' := [(5, .int (hI h11 a0 5)), (0, .ref a0), (1, .int x1), (2, .int x2), (3, .int x3), (4, .int x4)]) (am_dt kX2_add 33 rfl) (by decide) rfl ?_
    exact Ev.sub [1, 2, 0] rfl k
  · have k := k.2 c
    exact Ev.vret (am_dt kX2_add 6 rfl) rfl k
set_option maxRecDepth 20000 in
set_option maxHeartbeats 2000000 in
theorem bX2_add_68 {w : am_W} {d : Nat} {h : am_H} {Q : Option Value → am_H → Prop} {a0 : Nat} {x1 : Int32} {x5 : Int32}  (k : (x5 ≤ 0 → ((am_L 2 a0 h) ∧ (EvM w mX9_set d [.ref (a0 + 5), .int x5, .int (hI h a0 5)] h (fun r3 h2 => r3 = none ∧ ((am_L 2 a0 h2) ∧ (∀ h5 : am_H, h5 = sI h2 a0 5 ((hI h2 a0 5) + 1) → (Q none h5))))))) ∧ (¬ x5 ≤ 0 → ((am_L 2 a0 h) ∧ (EvM w mX9_get d [.ref (a0 + 5), .int (x5 - 1)] h (fun r8 h7 => ∃ v9 : Int32, r8 = some (.int v9) ∧ (EvM w mX9_get d [.ref (a0 + 1), .int v9] h7 (fun r11 h10 => ∃ v12 : Int32, r11 = some (.int v12) ∧ ((v12 ≤ x1 → ((am_L 2 a0 h10) ∧ (EvM w mX9_set d [.ref (a0 + 5), .int x5, .int (hI h10 a0 5)] h10 (fun r15 h14 => r15 = none ∧ ((am_L 2 a0 h14) ∧ (∀ h17 : am_H, h17 = sI h14 a0 5 ((hI h14 a0 5) + 1) → (Q none h17))))))) ∧ (¬ v12 ≤ x1 → ((am_L 2 a0 h10) ∧ (EvM w mX9_get d [.ref (a0 + 5), .int (x5 - 1)] h10 (fun r20 h19 => ∃ v21 : Int32, r20 = some (.int v21) ∧ (EvM w mX9_set d [.ref (a0 + 5), .int x5, .int v21] h19 (fun r23 h22 => r23 = none ∧ (Ev w (am_Z w) mX2_add (d + 1) 68 [(0, .ref a0), (1, .int x1), (5, .int (x5 + (-1)))] [] h22 Q))))))))))))))) : Ev w (am_Z w) mX2_add (d + 1) 68 [(0, .ref a0), (1, .int x1), (5, .int x5)] [] h Q := by
  refine Ev.iload 2 (am_dt kX2_add 34 rfl) rfl ?_
  refine Ev.if_le (tgt := 121) (am_dt kX2_add 35 rfl) (by decide) (fun c => ?_) (fun c => ?_)
  · have k := k.1 c
    refine Ev.aload_n 0 (am_dt kX2_add 59 rfl) rfl rfl ?_
    obtain ⟨f1, k⟩ := k
    refine Ev.getRe (ci := 2) (k := 4) (r := a0 + 5) (am_dt kX2_add 60 rfl) (by decide) (by decide) rfl wd_30 f1.1 (am_L.r f1 4 rfl) (by omega) ?_
    refine Ev.iload 2 (am_dt kX2_add 61 rfl) rfl ?_
    refine Ev.aload_n 0 (am_dt kX2_add 62 rfl) rfl rfl ?_
    refine Ev.getI (ci := 2) (k := 5) (am_dt kX2_add 63 rfl) (by decide) (by decide) rfl wd_31 f1.1 ?_
    refine Ev.callSN (v := mX9_set) (As := [.ref (a0 + 5), .int x5, .int (hI h a0 5)]) (st := []) okX9_set wd_16 wd_32 (am_dt kX2_add 64 rfl) rfl rfl (Nat.le_of_ble_eq_true rfl) (Nat.le_of_ble_eq_true rfl) ?_
    refine EvM.mono k (fun r3 h2 k => ?_)
    obtain ⟨rfl, k⟩ := k
    show Ev w _ _ _ 134 _ [] _ _
    refine Ev.aload_n 0 (am_dt kX2_add 65 rfl) rfl rfl ?_
    refine Ev.dup (am_dt kX2_add 66 rfl) rfl ?_
    obtain ⟨f4, k⟩ := k
    refine Ev.getI (ci := 2) (k := 5) (am_dt kX2_add 67 rfl) (by decide) (by decide) rfl wd_31 f4.1 ?_
    refine Ev.iconst (v := 1) (am_dt kX2_add 68 rfl) (by decide) ?_
    refine Ev.iadd (am_dt kX2_add 69 rfl) ?_
    refine Ev.putI' (ci := 2) (k := 5) (am_dt kX2_add 70 rfl) (by decide) (by decide) wd_31 rfl rfl rfl rfl f4.1 (fun h5 eh5 => ?_)
    have k := k h5 eh5
    have f4 := am_LsI eh5 f4
    exact Ev.vret (am_dt kX2_add 71 rfl) rfl k
  · have k := k.2 c
    refine Ev.aload_n 0 (am_dt kX2_add 36 rfl) rfl rfl ?_
    obtain ⟨f6, k⟩ := k
    refine Ev.getRe (ci := 2) (k := 0) (r := a0 + 1) (am_dt kX2_add 37 rfl) (by decide) (by decide) rfl wd_26 f6.1 (am_L.r f6 0 rfl) (by omega) ?_
    refine Ev.aload_n 0 (am_dt kX2_add 38 rfl) rfl rfl ?_
    refine Ev.getRe (ci := 2) (k := 4) (r := a0 + 5) (am_dt kX2_add 39 rfl) (by decide) (by decide) rfl wd_30 f6.1 (am_L.r f6 4 rfl) (by omega) ?_
    refine Ev.iload 2 (am_dt kX2_add 40 rfl) rfl ?_
    refine Ev.iconst (v := 1) (am_dt kX2_add 41 rfl) (by decide) ?_
    refine Ev.isub (am_dt kX2_add 42 rfl) ?_
    refine Ev.callSN (v := mX9_get) (As := [.ref (a0 + 5), .int (x5 - 1)]) (st := [.ref (a0 + 1)]) okX9_get wd_19 wd_33 (am_dt kX2_add 43 rfl) rfl rfl (Nat.le_of_ble_eq_true rfl) (Nat.le_of_ble_eq_true rfl) ?_
    refine EvM.mono k (fun r8 h7 k => ?_)
    obtain ⟨v9, rfl, k⟩ := k
    show Ev w _ _ _ 88 _ [.int v9, .ref (a0 + 1)] _ _
    refine Ev.callSN (v := mX9_get) (As := [.ref (a0 + 1), .int v9]) (st := []) okX9_get wd_19 wd_33 (am_dt kX2_add 44 rfl) rfl rfl (Nat.le_of_ble_eq_true rfl) (Nat.le_of_ble_eq_true rfl) ?_
    refine EvM.mono k (fun r11 h10 k => ?_)
    obtain ⟨v12, rfl, k⟩ := k
    show Ev w _ _ _ 91 _ [.int v12] _ _
    refine Ev.iload_n 1 (am_dt kX2_add 45 rfl) rfl rfl ?_
    refine Ev.icmp_le (tgt := 121) (am_dt kX2_add 46 rfl) (by decide) (fun c => ?_) (fun c => ?_)
    · have k := k.1 c
      refine Ev.aload_n 0 (am_dt kX2_add 59 rfl) rfl rfl ?_
      obtain ⟨f13, k⟩ := k
      refine Ev.getRe (ci := 2) (k := 4) (r := a0 + 5) (am_dt kX2_add 60 rfl) (by decide) (by decide) rfl wd_30 f13.1 (am_L.r f13 4 rfl) (by omega) ?_
      refine Ev.iload 2 (am_dt kX2_add 61 rfl) rfl ?_
      refine Ev.aload_n 0 (am_dt kX2_add 62 rfl) rfl rfl ?_
      refine Ev.getI (ci := 2) (k := 5) (am_dt kX2_add 63 rfl) (by decide) (by decide) rfl wd_31 f13.1 ?_
      refine Ev.callSN (v := mX9_set) (As := [.ref (a0 + 5), .int x5, .int (hI h10 a0 5)]) (st := []) okX9_set wd_16 wd_32 (am_dt kX2_add 64 rfl) rfl rfl (Nat.le_of_ble_eq_true rfl) (Nat.le_of_ble_eq_true rfl) ?_
      refine EvM.mono k (fun r15 h14 k => ?_)
      obtain ⟨rfl, k⟩ := k
      show Ev w _ _ _ 134 _ [] _ _
      refine Ev.aload_n 0 (am_dt kX2_add 65 rfl) rfl rfl ?_
      refine Ev.dup (am_dt kX2_add 66 rfl) rfl ?_
      obtain ⟨f16, k⟩ := k
      refine Ev.getI (ci := 2) (k := 5) (am_dt kX2_add 67 rfl) (by decide) (by decide) rfl wd_31 f16.1 ?_
      refine Ev.iconst (v := 1) (am_dt kX2_add 68 rfl) (by decide) ?_
      refine Ev.iadd (am_dt kX2_add 69 rfl) ?_
      refine Ev.putI' (ci := 2) (k := 5) (am_dt kX2_add 70 rfl) (by decide) (by decide) wd_31 rfl rfl rfl rfl f16.1 (fun h17 eh17 => ?_)
      have k := k h17 eh17
      have f16 := am_LsI eh17 f16
      exact Ev.vret (am_dt kX2_add 71 rfl) rfl k
    · have k := k.2 c
      refine Ev.aload_n 0 (am_dt kX2_add 47 rfl) rfl rfl ?_
      obtain ⟨f18, k⟩ := k
      refine Ev.getRe (ci := 2) (k := 4) (r := a0 + 5) (am_dt kX2_add 48 rfl) (by decide) (by decide) rfl wd_30 f18.1 (am_L.r f18 4 rfl) (by omega) ?_
      refine Ev.iload 2 (am_dt kX2_add 49 rfl) rfl ?_
      refine Ev.aload_n 0 (am_dt kX2_add 50 rfl) rfl rfl ?_
      refine Ev.getRe (ci := 2) (k := 4) (r := a0 + 5) (am_dt kX2_add 51 rfl) (by decide) (by decide) rfl wd_30 f18.1 (am_L.r f18 4 rfl) (by omega) ?_
      refine Ev.iload 2 (am_dt kX2_add 52 rfl) rfl ?_
      refine Ev.iconst (v := 1) (am_dt kX2_add 53 rfl) (by decide) ?_
      refine Ev.isub (am_dt kX2_add 54 rfl) ?_
      refine Ev.callSN (v := mX9_get) (As := [.ref (a0 + 5), .int (x5 - 1)]) (st := [.int x5, .ref (a0 + 5)]) okX9_get wd_19 wd_33 (am_dt kX2_add 55 rfl) rfl rfl (Nat.le_of_ble_eq_true rfl) (Nat.le_of_ble_eq_true rfl) ?_
      refine EvM.mono k (fun r20 h19 k => ?_)
      obtain ⟨v21, rfl, k⟩ := k
      show Ev w _ _ _ 112 _ [.int v21, .int x5, .ref (a0 + 5)] _ _
      refine Ev.callSN (v := mX9_set) (As := [.ref (a0 + 5), .int x5, .int v21]) (st := []) okX9_set wd_16 wd_32 (am_dt kX2_add 56 rfl) rfl rfl (Nat.le_of_ble_eq_true rfl) (Nat.le_of_ble_eq_true rfl) ?_
      refine EvM.mono k (fun r23 h22 k => ?_)
      obtain ⟨rfl, k⟩ := k
      show Ev w _ _ _ 115 _ [] _ _
      refine Ev.iinc (v := x5 + (-1)) (lv' := [(5, .int (x5 + (-1))), (0, .ref a0), (1, .int x1)]) 2 (am_dt kX2_add 57 rfl) rfl rfl (by decide) rfl ?_
      refine Ev.goto (tgt := 68) (am_dt kX2_add 58 rfl) (by decide) ?_
      exact Ev.sub [1, 2, 0] rfl k
set_option maxRecDepth 20000 in
set_option maxHeartbeats 2000000 in
theorem bX2_timeAt_0 {w : am_W} {d : Nat} {h : am_H} {Q : Option Value → am_H → Prop} {a0 : Nat} {x1 : Int32}  (k : (am_L 2 a0 h) ∧ (EvM w mX9_get d [.ref (a0 + 5), .int x1] h (fun r3 h2 => ∃ v4 : Int32, r3 = some (.int v4) ∧ (EvM w mX9_get d [.ref (a0 + 1), .int v4] h2 (fun r6 h5 => ∃ v7 : Int32, r6 = some (.int v7) ∧ (Q (some (.int v7)) h5)))))) : EvM w mX2_timeAt (d + 1) [.ref a0, .int x1] h Q := by
  show Ev w (am_Z w) mX2_timeAt (d + 1) 0 [(0, .ref a0), (1, .int x1)] [] h Q
  refine Ev.aload_n 0 (am_dt kX2_timeAt 0 rfl) rfl rfl ?_
  obtain ⟨f1, k⟩ := k
  refine Ev.getRe (ci := 2) (k := 0) (r := a0 + 1) (am_dt kX2_timeAt 1 rfl) (by decide) (by decide) rfl wd_26 f1.1 (am_L.r f1 0 rfl) (by omega) ?_
  refine Ev.aload_n 0 (am_dt kX2_timeAt 2 rfl) rfl rfl ?_
  refine Ev.getRe (ci := 2) (k := 4) (r := a0 + 5) (am_dt kX2_timeAt 3 rfl) (by decide) (by decide) rfl wd_30 f1.1 (am_L.r f1 4 rfl) (by omega) ?_
  refine Ev.iload_n 1 (am_dt kX2_timeAt 4 rfl) rfl rfl ?_
  refine Ev.callSN (v := mX9_get) (As := [.ref (a0 + 5), .int x1]) (st := [.ref (a0 + 1)]) okX9_get wd_19 wd_33 (am_dt kX2_timeAt 5 rfl) rfl rfl (Nat.le_of_ble_eq_true rfl) (Nat.le_of_ble_eq_true rfl) ?_
  refine EvM.mono k (fun r3 h2 k => ?_)
  obtain ⟨v4, rfl, k⟩ := k
  show Ev w _ _ _ 12 _ [.int v4, .ref (a0 + 1)] _ _
  refine Ev.callSN (v := mX9_get) (As := [.ref (a0 + 1), .int v4]) (st := []) okX9_get wd_19 wd_33 (am_dt kX2_timeAt 6 rfl) rfl rfl (Nat.le_of_ble_eq_true rfl) (Nat.le_of_ble_eq_true rfl) ?_
  refine EvM.mono k (fun r6 h5 k => ?_)
  obtain ⟨v7, rfl, k⟩ := k
  show Ev w _ _ _ 15 _ [.int v7] _ _
  exact Ev.iret .int (am_dt kX2_timeAt 7 rfl) rfl rfl k
