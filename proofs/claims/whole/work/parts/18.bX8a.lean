set_option maxRecDepth 20000 in
set_option maxHeartbeats 2000000 in
theorem bX8_init_0 {w : am_W} {d : Nat} {h : am_H} {Q : Option Value → am_H → Prop} {a0 : Nat}  (k : ∀ h1 : am_H, h1 = nA h 11 1000 → ((hK h1 a0 = 8) ∧ ((hZ h ≠ 0) ∧ (∀ h4 : am_H, h4 = sR h1 a0 0 (hZ h) → (∀ h5 : am_H, h5 = nA h4 12 1001 → ((hK h5 a0 = 8) ∧ ((hZ h4 ≠ 0) ∧ (∀ h8 : am_H, h8 = sR h5 a0 1 (hZ h4) → (∀ h9 : am_H, h9 = nA h8 12 1001 → ((hK h9 a0 = 8) ∧ ((hZ h8 ≠ 0) ∧ (∀ h12 : am_H, h12 = sR h9 a0 2 (hZ h8) → (Q none h12))))))))))))) : EvM w mX8_init (d + 1) [.ref a0] h Q := by
  show Ev w (am_Z w) mX8_init (d + 1) 0 [(0, .ref a0)] [] h Q
  refine Ev.aload_n 0 (am_dt kX8_init 0 rfl) rfl rfl ?_
  refine Ev.objI wd_79 wd_2 wd_3 (am_dt kX8_init 1 rfl) (Nat.le_of_ble_eq_true rfl) ?_
  refine Ev.aload_n 0 (am_dt kX8_init 2 rfl) rfl rfl ?_
  refine Ev.sipush (v := 1000) (am_dt kX8_init 3 rfl) (by decide) ?_
  refine Ev.newC' (n := 1000) (N := 1000) (am_dt kX8_init 4 rfl) wd_83 (by decide) (by decide) (by decide) (fun h1 eh1 => ?_)
  have k := k h1 eh1
  obtain ⟨f2, k⟩ := k
  obtain ⟨f3, k⟩ := k
  refine Ev.putRF' (ci := 8) (k := 0) (am_dt kX8_init 5 rfl) (by decide) (by decide) wd_80 rfl rfl rfl rfl rfl rfl f3 f2 (fun h4 eh4 => ?_)
  have k := k h4 eh4
  have f2 := kR eh4 f2
  refine Ev.aload_n 0 (am_dt kX8_init 6 rfl) rfl rfl ?_
  refine Ev.sipush (v := 1001) (am_dt kX8_init 7 rfl) (by decide) ?_
  refine Ev.newI' (n := 1001) (N := 1001) (am_dt kX8_init 8 rfl) wd_9 (by decide) (by decide) (by decide) (fun h5 eh5 => ?_)
  have k := k h5 eh5
  obtain ⟨f6, k⟩ := k
  obtain ⟨f7, k⟩ := k
  refine Ev.putRF' (ci := 8) (k := 1) (am_dt kX8_init 9 rfl) (by decide) (by decide) wd_81 rfl rfl rfl rfl rfl rfl f7 f6 (fun h8 eh8 => ?_)
  have k := k h8 eh8
  have f6 := kR eh8 f6
  refine Ev.aload_n 0 (am_dt kX8_init 10 rfl) rfl rfl ?_
  refine Ev.sipush (v := 1001) (am_dt kX8_init 11 rfl) (by decide) ?_
  refine Ev.newI' (n := 1001) (N := 1001) (am_dt kX8_init 12 rfl) wd_9 (by decide) (by decide) (by decide) (fun h9 eh9 => ?_)
  have k := k h9 eh9
  obtain ⟨f10, k⟩ := k
  obtain ⟨f11, k⟩ := k
  refine Ev.putRF' (ci := 8) (k := 2) (am_dt kX8_init 13 rfl) (by decide) (by decide) wd_82 rfl rfl rfl rfl rfl rfl f11 f10 (fun h12 eh12 => ?_)
  have k := k h12 eh12
  have f10 := kR eh12 f10
  exact Ev.vret (am_dt kX8_init 14 rfl) rfl k
set_option maxRecDepth 20000 in
set_option maxHeartbeats 2000000 in
theorem bX8_append_0 {w : am_W} {d : Nat} {h : am_H} {Q : Option Value → am_H → Prop} {a0 : Nat} {y1 : Int64}  (k : Ev w (am_Z w) mX8_append d 3 [(0, .ref a0), (1, .long y1), (3, .int 56)] [] h Q) : EvM w mX8_append d [.ref a0, .long y1] h Q := by
  show Ev w (am_Z w) mX8_append d 0 [(0, .ref a0), (1, .long y1)] [] h Q
  refine Ev.bipush (v := 56) (am_dt kX8_append 0 rfl) (by decide) ?_
  refine Ev.istore_n (lv' := [(3, .int 56), (0, .ref a0), (1, .long y1)]) (am_dt kX8_append 1 rfl) rfl (by decide) rfl ?_
  exact Ev.sub [1, 2, 0] rfl k
set_option maxRecDepth 20000 in
set_option maxHeartbeats 2000000 in
theorem bX8_append_3 {w : am_W} {d : Nat} {h : am_H} {Q : Option Value → am_H → Prop} {a0 : Nat} {y1 : Int64} {x3 : Int32}  (k : (x3 < 0 → (Q none h)) ∧ (¬ x3 < 0 → ((((Int64.toInt32 ((Int64.toUInt64 y1 >>> ((Int32.toInt64 x3).toUInt64 &&& Int64.toUInt64 63)).toInt64)) &&& 255) = 10 → (Ev w (am_Z w) mX8_append d 43 [(0, .ref a0), (1, .long y1), (3, .int x3), (4, .int ((Int64.toInt32 ((Int64.toUInt64 y1 >>> ((Int32.toInt64 x3).toUInt64 &&& Int64.toUInt64 63)).toInt64)) &&& 255))] [.int 1] h Q)) ∧ (¬ ((Int64.toInt32 ((Int64.toUInt64 y1 >>> ((Int32.toInt64 x3).toUInt64 &&& Int64.toUInt64 63)).toInt64)) &&& 255) = 10 → ((((Int64.toInt32 ((Int64.toUInt64 y1 >>> ((Int32.toInt64 x3).toUInt64 &&& Int64.toUInt64 63)).toInt64)) &&& 255) < 32 → (Ev w (am_Z w) mX8_append d 43 [(0, .ref a0), (1, .long y1), (3, .int x3), (4, .int ((Int64.toInt32 ((Int64.toUInt64 y1 >>> ((Int32.toInt64 x3).toUInt64 &&& Int64.toUInt64 63)).toInt64)) &&& 255))] [.int 0] h Q)) ∧ (¬ ((Int64.toInt32 ((Int64.toUInt64 y1 >>> ((Int32.toInt64 x3).toUInt64 &&& Int64.toUInt64 63)).toInt64)) &&& 255) < 32 → ((126 < ((Int64.toInt32 ((Int64.toUInt64 y1 >>> ((Int32.toInt64 x3).toUInt64 &&& Int64.toUInt64 63)).toInt64)) &&& 255) → (Ev w (am_Z w) mX8_append d 43 [(0, .ref a0), (1, .long y1), (3, .int x3), (4, .int ((Int64.toInt32 ((Int64.toUInt64 y1 >>> ((Int32.toInt64 x3).toUInt64 &&& Int64.toUInt64 63)).toInt64)) &&& 255))] [.int 0] h Q)) ∧ (¬ 126 < ((Int64.toInt32 ((Int64.toUInt64 y1 >>> ((Int32.toInt64 x3).toUInt64 &&& Int64.toUInt64 63)).toInt64)) &&& 255) → (Ev w (am_Z w) mX8_append d 43 [(0, .ref a0), (1, .long y1), (3, .int x3), (4, .int ((Int64.toInt32 ((Int64.toUInt64 y1 >>> ((Int32.toInt64 x3).toUInt64 &&& Int64.toUInt64 63)).toInt64)) &&& 255))] [.int 1] h Q))))))))) : Ev w (am_Z w) mX8_append d 3 [(0, .ref a0), (1, .long y1), (3, .int x3)] [] h Q := by
  refine Ev.iload_n 2 (am_dt kX8_append 2 rfl) rfl rfl ?_
  refine Ev.if_lt (tgt := 97) (am_dt kX8_append 3 rfl) (by decide) (fun c => ?_) (fun c => ?_)
  · have k := k.1 c
    exact Ev.vret (am_dt kX8_append 50 rfl) rfl k
  · have k := k.2 c
    refine Ev.lload_n 1 (am_dt kX8_append 4 rfl) rfl rfl ?_
    refine Ev.iload_n 2 (am_dt kX8_append 5 rfl) rfl rfl ?_
    refine Ev.lushr (am_dt kX8_append 6 rfl) ?_
    refine Ev.l2i (am_dt kX8_append 7 rfl) ?_
    refine Ev.sipush (v := 255) (am_dt kX8_append 8 rfl) (by decide) ?_
    refine Ev.iand (am_dt kX8_append 9 rfl) ?_
    refine Ev.istore (lv' := [(4, .int ((Int64.toInt32 ((Int64.toUInt64 y1 >>> ((Int32.toInt64 x3).toUInt64 &&& Int64.toUInt64 63)).toInt64)) &&& 255)), (0, .ref a0), (1, .long y1), (3, .int x3)]) (am_dt kX8_append 10 rfl) (by decide) rfl ?_
    refine Ev.iload 0 (am_dt kX8_append 11 rfl) rfl ?_
    refine Ev.bipush (v := 10) (am_dt kX8_append 12 rfl) (by decide) ?_
    refine Ev.icmp_eq (tgt := 38) (am_dt kX8_append 13 rfl) (by decide) (fun c => ?_) (fun c => ?_)
    · have k := k.1 c
      refine Ev.iconst (v := 1) (am_dt kX8_append 20 rfl) (by decide) ?_
      refine Ev.goto (tgt := 43) (am_dt kX8_append 21 rfl) (by decide) ?_
      exact Ev.sub [1, 2, 3, 0] rfl k
    · have k := k.2 c
      refine Ev.iload 0 (am_dt kX8_append 14 rfl) rfl ?_
      refine Ev.bipush (v := 32) (am_dt kX8_append 15 rfl) (by decide) ?_
      refine Ev.icmp_lt (tgt := 42) (am_dt kX8_append 16 rfl) (by decide) (fun c => ?_) (fun c => ?_)
      · have k := k.1 c
        refine Ev.iconst (v := 0) (am_dt kX8_append 22 rfl) (by decide) ?_
        exact Ev.sub [1, 2, 3, 0] rfl k
      · have k := k.2 c
        refine Ev.iload 0 (am_dt kX8_append 17 rfl) rfl ?_
        refine Ev.bipush (v := 126) (am_dt kX8_append 18 rfl) (by decide) ?_
        refine Ev.icmp_gt (tgt := 42) (am_dt kX8_append 19 rfl) (by decide) (fun c => ?_) (fun c => ?_)
        · have k := k.1 c
          refine Ev.iconst (v := 0) (am_dt kX8_append 22 rfl) (by decide) ?_
          exact Ev.sub [1, 2, 3, 0] rfl k
        · have k := k.2 c
          refine Ev.iconst (v := 1) (am_dt kX8_append 20 rfl) (by decide) ?_
          refine Ev.goto (tgt := 43) (am_dt kX8_append 21 rfl) (by decide) ?_
          exact Ev.sub [1, 2, 3, 0] rfl k
set_option maxRecDepth 20000 in
set_option maxHeartbeats 2000000 in
theorem bX8_append_43 {w : am_W} {d : Nat} {h : am_H} {Q : Option Value → am_H → Prop} {a0 : Nat} {y1 : Int64} {x3 : Int32} {x4 : Int32} {s0 : Int32} (k : (s0 = 0 → (Ev w (am_Z w) mX8_append d 3 [(0, .ref a0), (1, .long y1), (3, .int (x3 + (-8)))] [] h Q)) ∧ (¬ s0 = 0 → ((am_L 8 a0 h) ∧ (((hI h a0 3) < 0 → (Ev w (am_Z w) mX8_append d 3 [(0, .ref a0), (1, .long y1), (3, .int (x3 + (-8)))] [] h Q)) ∧ (¬ (hI h a0 3) < 0 → (((nI (hN h (a0 + 1))) ≤ (hI h a0 3) → (Ev w (am_Z w) mX8_append d 3 [(0, .ref a0), (1, .long y1), (3, .int (x3 + (-8)))] [] h Q)) ∧ (¬ (nI (hN h (a0 + 1))) ≤ (hI h a0 3) → ((vp_in (hI h a0 3) (hN h (a0 + 1))) ∧ ((narrow .char (.int ((Int32.toUInt32 x4 % 65536).toInt32)) = .int ((Int32.toUInt32 x4 % 65536).toInt32)) ∧ (∀ h4 : am_H, h4 = sI h (a0 + 1) (Int32.toNatClampNeg (hI h a0 3)) ((Int32.toUInt32 x4 % 65536).toInt32) → (∀ h5 : am_H, h5 = sI h4 a0 3 ((hI h4 a0 3) + 1) → (Ev w (am_Z w) mX8_append d 3 [(0, .ref a0), (1, .long y1), (3, .int (x3 + (-8)))] [] h5 Q)))))))))))) : Ev w (am_Z w) mX8_append d 43 [(0, .ref a0), (1, .long y1), (3, .int x3), (4, .int x4)] [.int s0] h Q := by
  refine Ev.istore (lv' := [(5, .int s0), (0, .ref a0), (1, .long y1), (3, .int x3), (4, .int x4)]) (am_dt kX8_append 23 rfl) (by decide) rfl ?_
  refine Ev.iload 0 (am_dt kX8_append 24 rfl) rfl ?_
  refine Ev.if_eq (tgt := 91) (am_dt kX8_append 25 rfl) (by decide) (fun c => ?_) (fun c => ?_)
  · have k := k.1 c
    refine Ev.iinc (v := x3 + (-8)) (lv' := [(3, .int (x3 + (-8))), (5, .int s0), (0, .ref a0), (1, .long y1), (4, .int x4)]) 3 (am_dt kX8_append 48 rfl) rfl rfl (by decide) rfl ?_
    refine Ev.goto (tgt := 3) (am_dt kX8_append 49 rfl) (by decide) ?_
    exact Ev.sub [2, 3, 0] rfl k
  · have k := k.2 c
    refine Ev.aload_n 1 (am_dt kX8_append 26 rfl) rfl rfl ?_
    obtain ⟨f1, k⟩ := k
    refine Ev.getI (ci := 8) (k := 3) (am_dt kX8_append 27 rfl) (by decide) (by decide) rfl wd_84 f1.1 ?_
    refine Ev.if_lt (tgt := 91) (am_dt kX8_append 28 rfl) (by decide) (fun c => ?_) (fun c => ?_)
    · have k := k.1 c
      refine Ev.iinc (v := x3 + (-8)) (lv' := [(3, .int (x3 + (-8))), (5, .int s0), (0, .ref a0), (1, .long y1), (4, .int x4)]) 3 (am_dt kX8_append 48 rfl) rfl rfl (by decide) rfl ?_
      refine Ev.goto (tgt := 3) (am_dt kX8_append 49 rfl) (by decide) ?_
      exact Ev.sub [2, 3, 0] rfl k
    · have k := k.2 c
      refine Ev.aload_n 1 (am_dt kX8_append 29 rfl) rfl rfl ?_
      refine Ev.getI (ci := 8) (k := 3) (am_dt kX8_append 30 rfl) (by decide) (by decide) rfl wd_84 f1.1 ?_
      refine Ev.aload_n 1 (am_dt kX8_append 31 rfl) rfl rfl ?_
      refine Ev.getRe (ci := 8) (k := 0) (r := a0 + 1) (am_dt kX8_append 32 rfl) (by decide) (by decide) rfl wd_80 f1.1 (am_L.r f1 0 rfl) (by omega) ?_
      refine Ev.alen 11 (am_dt kX8_append 33 rfl) (by decide) (by decide) (am_L.s f1 0 rfl) ?_
      refine Ev.icmp_ge (tgt := 91) (am_dt kX8_append 34 rfl) (by decide) (fun c => ?_) (fun c => ?_)
      · have k := k.1 c
        refine Ev.iinc (v := x3 + (-8)) (lv' := [(3, .int (x3 + (-8))), (5, .int s0), (0, .ref a0), (1, .long y1), (4, .int x4)]) 3 (am_dt kX8_append 48 rfl) rfl rfl (by decide) rfl ?_
        refine Ev.goto (tgt := 3) (am_dt kX8_append 49 rfl) (by decide) ?_
        exact Ev.sub [2, 3, 0] rfl k
      · have k := k.2 c
        refine Ev.aload_n 1 (am_dt kX8_append 35 rfl) rfl rfl ?_
        refine Ev.getRe (ci := 8) (k := 0) (r := a0 + 1) (am_dt kX8_append 36 rfl) (by decide) (by decide) rfl wd_80 f1.1 (am_L.r f1 0 rfl) (by omega) ?_
        refine Ev.aload_n 1 (am_dt kX8_append 37 rfl) rfl rfl ?_
        refine Ev.getI (ci := 8) (k := 3) (am_dt kX8_append 38 rfl) (by decide) (by decide) rfl wd_84 f1.1 ?_
        refine Ev.iload 4 (am_dt kX8_append 39 rfl) rfl ?_
        refine Ev.i2c (am_dt kX8_append 40 rfl) ?_
        obtain ⟨f2, k⟩ := k
        obtain ⟨f3, k⟩ := k
        refine Ev.cast' (am_dt kX8_append 41 rfl) (am_L.s f1 0 rfl) f2 f3 (fun h4 eh4 => ?_)
        have k := k h4 eh4
        have f1 := am_LsI eh4 f1
        refine Ev.aload_n 1 (am_dt kX8_append 42 rfl) rfl rfl ?_
        refine Ev.dup (am_dt kX8_append 43 rfl) rfl ?_
        refine Ev.getI (ci := 8) (k := 3) (am_dt kX8_append 44 rfl) (by decide) (by decide) rfl wd_84 f1.1 ?_
        refine Ev.iconst (v := 1) (am_dt kX8_append 45 rfl) (by decide) ?_
        refine Ev.iadd (am_dt kX8_append 46 rfl) ?_
        refine Ev.putI' (ci := 8) (k := 3) (am_dt kX8_append 47 rfl) (by decide) (by decide) wd_84 rfl rfl rfl rfl f1.1 (fun h5 eh5 => ?_)
        have k := k h5 eh5
        have f1 := am_LsI eh5 f1
        refine Ev.iinc (v := x3 + (-8)) (lv' := [(3, .int (x3 + (-8))), (5, .int s0), (0, .ref a0), (1, .long y1), (4, .int x4)]) 3 (am_dt kX8_append 48 rfl) rfl rfl (by decide) rfl ?_
        refine Ev.goto (tgt := 3) (am_dt kX8_append 49 rfl) (by decide) ?_
        exact Ev.sub [2, 3, 0] rfl k
set_option maxRecDepth 20000 in
set_option maxHeartbeats 2000000 in
theorem bX8_add_0 {w : am_W} {d : Nat} {h : am_H} {Q : Option Value → am_H → Prop} {a0 : Nat} {x1 : Int32} {x2 : Int32}  (k : (am_L 8 a0 h) ∧ (EvM w mX9_set d [.ref (a0 + 2), .int (hI h a0 4), .int x1] h (fun r3 h2 => r3 = none ∧ ((am_L 8 a0 h2) ∧ (EvM w mX9_set d [.ref (a0 + 3), .int (hI h2 a0 4), .int x2] h2 (fun r6 h5 => r6 = none ∧ ((am_L 8 a0 h5) ∧ (∀ h8 : am_H, h8 = sI h5 a0 4 ((hI h5 a0 4) + 1) → (Q none h8))))))))) : EvM w mX8_add (d + 1) [.ref a0, .int x1, .int x2] h Q := by
  show Ev w (am_Z w) mX8_add (d + 1) 0 [(0, .ref a0), (1, .int x1), (2, .int x2)] [] h Q
  refine Ev.aload_n 0 (am_dt kX8_add 0 rfl) rfl rfl ?_
  obtain ⟨f1, k⟩ := k
  refine Ev.getRe (ci := 8) (k := 1) (r := a0 + 2) (am_dt kX8_add 1 rfl) (by decide) (by decide) rfl wd_81 f1.1 (am_L.r f1 1 rfl) (by omega) ?_
  refine Ev.aload_n 0 (am_dt kX8_add 2 rfl) rfl rfl ?_
  refine Ev.getI (ci := 8) (k := 4) (am_dt kX8_add 3 rfl) (by decide) (by decide) rfl wd_85 f1.1 ?_
  refine Ev.iload_n 1 (am_dt kX8_add 4 rfl) rfl rfl ?_
  refine Ev.callSN (v := mX9_set) (As := [.ref (a0 + 2), .int (hI h a0 4), .int x1]) (st := []) okX9_set wd_16 wd_86 (am_dt kX8_add 5 rfl) rfl rfl (Nat.le_of_ble_eq_true rfl) (Nat.le_of_ble_eq_true rfl) ?_
  refine EvM.mono k (fun r3 h2 k => ?_)
  obtain ⟨rfl, k⟩ := k
  show Ev w _ _ _ 12 _ [] _ _
  refine Ev.aload_n 0 (am_dt kX8_add 6 rfl) rfl rfl ?_
  obtain ⟨f4, k⟩ := k
  refine Ev.getRe (ci := 8) (k := 2) (r := a0 + 3) (am_dt kX8_add 7 rfl) (by decide) (by decide) rfl wd_82 f4.1 (am_L.r f4 2 rfl) (by omega) ?_
  refine Ev.aload_n 0 (am_dt kX8_add 8 rfl) rfl rfl ?_
  refine Ev.getI (ci := 8) (k := 4) (am_dt kX8_add 9 rfl) (by decide) (by decide) rfl wd_85 f4.1 ?_
  refine Ev.iload_n 2 (am_dt kX8_add 10 rfl) rfl rfl ?_
  refine Ev.callSN (v := mX9_set) (As := [.ref (a0 + 3), .int (hI h2 a0 4), .int x2]) (st := []) okX9_set wd_16 wd_86 (am_dt kX8_add 11 rfl) rfl rfl (Nat.le_of_ble_eq_true rfl) (Nat.le_of_ble_eq_true rfl) ?_
  refine EvM.mono k (fun r6 h5 k => ?_)
  obtain ⟨rfl, k⟩ := k
  show Ev w _ _ _ 24 _ [] _ _
  refine Ev.aload_n 0 (am_dt kX8_add 12 rfl) rfl rfl ?_
  refine Ev.dup (am_dt kX8_add 13 rfl) rfl ?_
  obtain ⟨f7, k⟩ := k
  refine Ev.getI (ci := 8) (k := 4) (am_dt kX8_add 14 rfl) (by decide) (by decide) rfl wd_85 f7.1 ?_
  refine Ev.iconst (v := 1) (am_dt kX8_add 15 rfl) (by decide) ?_
  refine Ev.iadd (am_dt kX8_add 16 rfl) ?_
  refine Ev.putI' (ci := 8) (k := 4) (am_dt kX8_add 17 rfl) (by decide) (by decide) wd_85 rfl rfl rfl rfl f7.1 (fun h8 eh8 => ?_)
  have k := k h8 eh8
  have f7 := am_LsI eh8 f7
  exact Ev.vret (am_dt kX8_add 18 rfl) rfl k
set_option maxRecDepth 20000 in
set_option maxHeartbeats 2000000 in
theorem bX8_signAt_0 {w : am_W} {d : Nat} {h : am_H} {Q : Option Value → am_H → Prop} {a0 : Nat} {x1 : Int32}  (k : (x1 < 0 → (narrow .char (.int 32) = .int 32 ∧ (Q (some (.int 32)) h))) ∧ (¬ x1 < 0 → ((am_L 8 a0 h) ∧ (((hI h a0 3) ≤ x1 → (narrow .char (.int 32) = .int 32 ∧ (Q (some (.int 32)) h))) ∧ (¬ (hI h a0 3) ≤ x1 → (((nI (hN h (a0 + 1))) ≤ x1 → (narrow .char (.int 32) = .int 32 ∧ (Q (some (.int 32)) h))) ∧ (¬ (nI (hN h (a0 + 1))) ≤ x1 → ((vp_in x1 (hN h (a0 + 1))) ∧ (narrow .char (.int (hI h (a0 + 1) (Int32.toNatClampNeg x1))) = .int (hI h (a0 + 1) (Int32.toNatClampNeg x1)) ∧ (Q (some (.int (hI h (a0 + 1) (Int32.toNatClampNeg x1)))) h)))))))))) : EvM w mX8_signAt d [.ref a0, .int x1] h Q := by
  show Ev w (am_Z w) mX8_signAt d 0 [(0, .ref a0), (1, .int x1)] [] h Q
  refine Ev.iload_n 1 (am_dt kX8_signAt 0 rfl) rfl rfl ?_
  refine Ev.if_lt (tgt := 30) (am_dt kX8_signAt 1 rfl) (by decide) (fun c => ?_) (fun c => ?_)
  · have k := k.1 c
    refine Ev.bipush (v := 32) (am_dt kX8_signAt 16 rfl) (by decide) ?_
    exact Ev.iret .char (am_dt kX8_signAt 17 rfl) rfl k.1 k.2
  · have k := k.2 c
    refine Ev.iload_n 1 (am_dt kX8_signAt 2 rfl) rfl rfl ?_
    refine Ev.aload_n 0 (am_dt kX8_signAt 3 rfl) rfl rfl ?_
    obtain ⟨f2, k⟩ := k
    refine Ev.getI (ci := 8) (k := 3) (am_dt kX8_signAt 4 rfl) (by decide) (by decide) rfl wd_84 f2.1 ?_
    refine Ev.icmp_ge (tgt := 30) (am_dt kX8_signAt 5 rfl) (by decide) (fun c => ?_) (fun c => ?_)
    · have k := k.1 c
      refine Ev.bipush (v := 32) (am_dt kX8_signAt 16 rfl) (by decide) ?_
      exact Ev.iret .char (am_dt kX8_signAt 17 rfl) rfl k.1 k.2
    · have k := k.2 c
      refine Ev.iload_n 1 (am_dt kX8_signAt 6 rfl) rfl rfl ?_
      refine Ev.aload_n 0 (am_dt kX8_signAt 7 rfl) rfl rfl ?_
      refine Ev.getRe (ci := 8) (k := 0) (r := a0 + 1) (am_dt kX8_signAt 8 rfl) (by decide) (by decide) rfl wd_80 f2.1 (am_L.r f2 0 rfl) (by omega) ?_
      refine Ev.alen 11 (am_dt kX8_signAt 9 rfl) (by decide) (by decide) (am_L.s f2 0 rfl) ?_
      refine Ev.icmp_ge (tgt := 30) (am_dt kX8_signAt 10 rfl) (by decide) (fun c => ?_) (fun c => ?_)
      · have k := k.1 c
        refine Ev.bipush (v := 32) (am_dt kX8_signAt 16 rfl) (by decide) ?_
        exact Ev.iret .char (am_dt kX8_signAt 17 rfl) rfl k.1 k.2
      · have k := k.2 c
        refine Ev.aload_n 0 (am_dt kX8_signAt 11 rfl) rfl rfl ?_
        refine Ev.getRe (ci := 8) (k := 0) (r := a0 + 1) (am_dt kX8_signAt 12 rfl) (by decide) (by decide) rfl wd_80 f2.1 (am_L.r f2 0 rfl) (by omega) ?_
        refine Ev.iload_n 1 (am_dt kX8_signAt 13 rfl) rfl rfl ?_
        obtain ⟨f5, k⟩ := k
        refine Ev.cald (am_dt kX8_signAt 14 rfl) (am_L.s f2 0 rfl) f5 ?_
        refine Ev.goto (tgt := 32) (am_dt kX8_signAt 15 rfl) (by decide) ?_
        exact Ev.iret .char (am_dt kX8_signAt 17 rfl) rfl k.1 k.2
set_option maxRecDepth 20000 in
set_option maxHeartbeats 2000000 in
theorem bX8_isLetter_0 {w : am_W} {d : Nat} {h : am_H} {Q : Option Value → am_H → Prop} {x0 : Int32}  (k : (x0 < 97 → (Q (some (.int 0)) h)) ∧ (¬ x0 < 97 → ((122 < x0 → (Q (some (.int 0)) h)) ∧ (¬ 122 < x0 → (Q (some (.int 1)) h))))) : EvM w mX8_isLetter d [.int x0] h Q := by
  show Ev w (am_Z w) mX8_isLetter d 0 [(0, .int x0)] [] h Q
  refine Ev.iload_n 0 (am_dt kX8_isLetter 0 rfl) rfl rfl ?_
  refine Ev.bipush (v := 97) (am_dt kX8_isLetter 1 rfl) (by decide) ?_
  refine Ev.icmp_lt (tgt := 16) (am_dt kX8_isLetter 2 rfl) (by decide) (fun c => ?_) (fun c => ?_)
  · have k := k.1 c
    refine Ev.iconst (v := 0) (am_dt kX8_isLetter 8 rfl) (by decide) ?_
    exact Ev.iret .boolean (am_dt kX8_isLetter 9 rfl) rfl rfl k
  · have k := k.2 c
    refine Ev.iload_n 0 (am_dt kX8_isLetter 3 rfl) rfl rfl ?_
    refine Ev.bipush (v := 122) (am_dt kX8_isLetter 4 rfl) (by decide) ?_
    refine Ev.icmp_gt (tgt := 16) (am_dt kX8_isLetter 5 rfl) (by decide) (fun c => ?_) (fun c => ?_)
    · have k := k.1 c
      refine Ev.iconst (v := 0) (am_dt kX8_isLetter 8 rfl) (by decide) ?_
      exact Ev.iret .boolean (am_dt kX8_isLetter 9 rfl) rfl rfl k
    · have k := k.2 c
      refine Ev.iconst (v := 1) (am_dt kX8_isLetter 6 rfl) (by decide) ?_
      refine Ev.goto (tgt := 17) (am_dt kX8_isLetter 7 rfl) (by decide) ?_
      exact Ev.iret .boolean (am_dt kX8_isLetter 9 rfl) rfl rfl k
set_option maxRecDepth 20000 in
set_option maxHeartbeats 2000000 in
theorem bX8_isDigit_0 {w : am_W} {d : Nat} {h : am_H} {Q : Option Value → am_H → Prop} {x0 : Int32}  (k : (x0 < 48 → (Q (some (.int 0)) h)) ∧ (¬ x0 < 48 → ((57 < x0 → (Q (some (.int 0)) h)) ∧ (¬ 57 < x0 → (Q (some (.int 1)) h))))) : EvM w mX8_isDigit d [.int x0] h Q := by
  show Ev w (am_Z w) mX8_isDigit d 0 [(0, .int x0)] [] h Q
  refine Ev.iload_n 0 (am_dt kX8_isDigit 0 rfl) rfl rfl ?_
  refine Ev.bipush (v := 48) (am_dt kX8_isDigit 1 rfl) (by decide) ?_
  refine Ev.icmp_lt (tgt := 16) (am_dt kX8_isDigit 2 rfl) (by decide) (fun c => ?_) (fun c => ?_)
  · have k := k.1 c
    refine Ev.iconst (v := 0) (am_dt kX8_isDigit 8 rfl) (by decide) ?_
    exact Ev.iret .boolean (am_dt kX8_isDigit 9 rfl) rfl rfl k
  · have k := k.2 c
    refine Ev.iload_n 0 (am_dt kX8_isDigit 3 rfl) rfl rfl ?_
    refine Ev.bipush (v := 57) (am_dt kX8_isDigit 4 rfl) (by decide) ?_
    refine Ev.icmp_gt (tgt := 16) (am_dt kX8_isDigit 5 rfl) (by decide) (fun c => ?_) (fun c => ?_)
    · have k := k.1 c
      refine Ev.iconst (v := 0) (am_dt kX8_isDigit 8 rfl) (by decide) ?_
      exact Ev.iret .boolean (am_dt kX8_isDigit 9 rfl) rfl rfl k
    · have k := k.2 c
      refine Ev.iconst (v := 1) (am_dt kX8_isDigit 6 rfl) (by decide) ?_
      refine Ev.goto (tgt := 17) (am_dt kX8_isDigit 7 rfl) (by decide) ?_
      exact Ev.iret .boolean (am_dt kX8_isDigit 9 rfl) rfl rfl k
set_option maxRecDepth 20000 in
set_option maxHeartbeats 2000000 in
theorem bX8_endOfWord_0 {w : am_W} {d : Nat} {h : am_H} {Q : Option Value → am_H → Prop} {a0 : Nat} {x1 : Int32}  (k : Ev w (am_Z w) mX8_endOfWord (d + 1) 2 [(0, .ref a0), (2, .int x1)] [] h Q) : EvM w mX8_endOfWord (d + 1) [.ref a0, .int x1] h Q := by
  show Ev w (am_Z w) mX8_endOfWord (d + 1) 0 [(0, .ref a0), (1, .int x1)] [] h Q
  refine Ev.iload_n 1 (am_dt kX8_endOfWord 0 rfl) rfl rfl ?_
  refine Ev.istore_n (lv' := [(2, .int x1), (0, .ref a0), (1, .int x1)]) (am_dt kX8_endOfWord 1 rfl) rfl (by decide) rfl ?_
  exact Ev.sub [1, 0] rfl k
set_option maxRecDepth 20000 in
set_option maxHeartbeats 2000000 in
theorem bX8_endOfWord_2 {w : am_W} {d : Nat} {h : am_H} {Q : Option Value → am_H → Prop} {a0 : Nat} {x2 : Int32}  (k : (am_L 8 a0 h) ∧ (((hI h a0 3) ≤ x2 → (Q (some (.int x2)) h)) ∧ (¬ (hI h a0 3) ≤ x2 → (EvM w mX8_signAt d [.ref a0, .int x2] h (fun r3 h2 => ∃ v4 : Int32, r3 = some (.int v4) ∧ (EvM w mX8_isLetter d [.int v4] h2 (fun r6 h5 => ∃ v7 : Int32, r6 = some (.int v7) ∧ ((v7 = 0 → (Q (some (.int x2)) h5)) ∧ (¬ v7 = 0 → (Ev w (am_Z w) mX8_endOfWord (d + 1) 2 [(0, .ref a0), (2, .int (x2 + 1))] [] h5 Q)))))))))) : Ev w (am_Z w) mX8_endOfWord (d + 1) 2 [(0, .ref a0), (2, .int x2)] [] h Q := by
  refine Ev.iload_n 1 (am_dt kX8_endOfWord 2 rfl) rfl rfl ?_
  refine Ev.aload_n 0 (am_dt kX8_endOfWord 3 rfl) rfl rfl ?_
  obtain ⟨f1, k⟩ := k
  refine Ev.getI (ci := 8) (k := 3) (am_dt kX8_endOfWord 4 rfl) (by decide) (by decide) rfl wd_84 f1.1 ?_
  refine Ev.icmp_ge (tgt := 27) (am_dt kX8_endOfWord 5 rfl) (by decide) (fun c => ?_) (fun c => ?_)
  · have k := k.1 c
    refine Ev.iload_n 1 (am_dt kX8_endOfWord 13 rfl) rfl rfl ?_
    exact Ev.iret .int (am_dt kX8_endOfWord 14 rfl) rfl rfl k
  · have k := k.2 c
    refine Ev.aload_n 0 (am_dt kX8_endOfWord 6 rfl) rfl rfl ?_
    refine Ev.iload_n 1 (am_dt kX8_endOfWord 7 rfl) rfl rfl ?_
    refine Ev.callV (ci := 8) (v := mX8_signAt) (As := [.int x2]) (st := []) okX8_signAt wd_87 wd_88 wd_89 (am_dt kX8_endOfWord 8 rfl) (by decide) rfl rfl (Nat.le_of_ble_eq_true rfl) (Nat.le_of_ble_eq_true rfl) f1.1 ?_
    refine EvM.mono k (fun r3 h2 k => ?_)
    obtain ⟨v4, rfl, k⟩ := k
    show Ev w _ _ _ 15 _ [.int v4] _ _
    refine Ev.callS (v := mX8_isLetter) (As := [.int v4]) (st := []) okX8_isLetter wd_91 wd_90 (am_dt kX8_endOfWord 9 rfl) rfl rfl (Nat.le_of_ble_eq_true rfl) (Nat.le_of_ble_eq_true rfl) ?_
    refine EvM.mono k (fun r6 h5 k => ?_)
    obtain ⟨v7, rfl, k⟩ := k
    show Ev w _ _ _ 18 _ [.int v7] _ _
    refine Ev.if_eq (tgt := 27) (am_dt kX8_endOfWord 10 rfl) (by decide) (fun c => ?_) (fun c => ?_)
    · have k := k.1 c
      refine Ev.iload_n 1 (am_dt kX8_endOfWord 13 rfl) rfl rfl ?_
      exact Ev.iret .int (am_dt kX8_endOfWord 14 rfl) rfl rfl k
    · have k := k.2 c
      refine Ev.iinc (v := x2 + 1) (lv' := [(2, .int (x2 + 1)), (0, .ref a0)]) 1 (am_dt kX8_endOfWord 11 rfl) rfl rfl (by decide) rfl ?_
      refine Ev.goto (tgt := 2) (am_dt kX8_endOfWord 12 rfl) (by decide) ?_
      exact Ev.sub [1, 0] rfl k
set_option maxRecDepth 20000 in
set_option maxHeartbeats 2000000 in
theorem bX8_endOfNumber_0 {w : am_W} {d : Nat} {h : am_H} {Q : Option Value → am_H → Prop} {a0 : Nat} {x1 : Int32}  (k : Ev w (am_Z w) mX8_endOfNumber (d + 1) 2 [(0, .ref a0), (2, .int x1)] [] h Q) : EvM w mX8_endOfNumber (d + 1) [.ref a0, .int x1] h Q := by
  show Ev w (am_Z w) mX8_endOfNumber (d + 1) 0 [(0, .ref a0), (1, .int x1)] [] h Q
  refine Ev.iload_n 1 (am_dt kX8_endOfNumber 0 rfl) rfl rfl ?_
  refine Ev.istore_n (lv' := [(2, .int x1), (0, .ref a0), (1, .int x1)]) (am_dt kX8_endOfNumber 1 rfl) rfl (by decide) rfl ?_
  exact Ev.sub [1, 0] rfl k
set_option maxRecDepth 20000 in
set_option maxHeartbeats 2000000 in
theorem bX8_endOfNumber_2 {w : am_W} {d : Nat} {h : am_H} {Q : Option Value → am_H → Prop} {a0 : Nat} {x2 : Int32}  (k : (am_L 8 a0 h) ∧ (((hI h a0 3) ≤ x2 → (Q (some (.int x2)) h)) ∧ (¬ (hI h a0 3) ≤ x2 → (EvM w mX8_signAt d [.ref a0, .int x2] h (fun r3 h2 => ∃ v4 : Int32, r3 = some (.int v4) ∧ (EvM w mX8_isDigit d [.int v4] h2 (fun r6 h5 => ∃ v7 : Int32, r6 = some (.int v7) ∧ ((v7 = 0 → (Q (some (.int x2)) h5)) ∧ (¬ v7 = 0 → (Ev w (am_Z w) mX8_endOfNumber (d + 1) 2 [(0, .ref a0), (2, .int (x2 + 1))] [] h5 Q)))))))))) : Ev w (am_Z w) mX8_endOfNumber (d + 1) 2 [(0, .ref a0), (2, .int x2)] [] h Q := by
  refine Ev.iload_n 1 (am_dt kX8_endOfNumber 2 rfl) rfl rfl ?_
  refine Ev.aload_n 0 (am_dt kX8_endOfNumber 3 rfl) rfl rfl ?_
  obtain ⟨f1, k⟩ := k
  refine Ev.getI (ci := 8) (k := 3) (am_dt kX8_endOfNumber 4 rfl) (by decide) (by decide) rfl wd_84 f1.1 ?_
  refine Ev.icmp_ge (tgt := 27) (am_dt kX8_endOfNumber 5 rfl) (by decide) (fun c => ?_) (fun c => ?_)
  · have k := k.1 c
    refine Ev.iload_n 1 (am_dt kX8_endOfNumber 13 rfl) rfl rfl ?_
    exact Ev.iret .int (am_dt kX8_endOfNumber 14 rfl) rfl rfl k
  · have k := k.2 c
    refine Ev.aload_n 0 (am_dt kX8_endOfNumber 6 rfl) rfl rfl ?_
    refine Ev.iload_n 1 (am_dt kX8_endOfNumber 7 rfl) rfl rfl ?_
    refine Ev.callV (ci := 8) (v := mX8_signAt) (As := [.int x2]) (st := []) okX8_signAt wd_87 wd_88 wd_89 (am_dt kX8_endOfNumber 8 rfl) (by decide) rfl rfl (Nat.le_of_ble_eq_true rfl) (Nat.le_of_ble_eq_true rfl) f1.1 ?_
    refine EvM.mono k (fun r3 h2 k => ?_)
    obtain ⟨v4, rfl, k⟩ := k
    show Ev w _ _ _ 15 _ [.int v4] _ _
    refine Ev.callS (v := mX8_isDigit) (As := [.int v4]) (st := []) okX8_isDigit wd_93 wd_92 (am_dt kX8_endOfNumber 9 rfl) rfl rfl (Nat.le_of_ble_eq_true rfl) (Nat.le_of_ble_eq_true rfl) ?_
    refine EvM.mono k (fun r6 h5 k => ?_)
    obtain ⟨v7, rfl, k⟩ := k
    show Ev w _ _ _ 18 _ [.int v7] _ _
    refine Ev.if_eq (tgt := 27) (am_dt kX8_endOfNumber 10 rfl) (by decide) (fun c => ?_) (fun c => ?_)
    · have k := k.1 c
      refine Ev.iload_n 1 (am_dt kX8_endOfNumber 13 rfl) rfl rfl ?_
      exact Ev.iret .int (am_dt kX8_endOfNumber 14 rfl) rfl rfl k
    · have k := k.2 c
      refine Ev.iinc (v := x2 + 1) (lv' := [(2, .int (x2 + 1)), (0, .ref a0)]) 1 (am_dt kX8_endOfNumber 11 rfl) rfl rfl (by decide) rfl ?_
      refine Ev.goto (tgt := 2) (am_dt kX8_endOfNumber 12 rfl) (by decide) ?_
      exact Ev.sub [1, 0] rfl k
set_option maxRecDepth 20000 in
set_option maxHeartbeats 2000000 in
theorem bX8_nameKey_0 {w : am_W} {d : Nat} {h : am_H} {Q : Option Value → am_H → Prop} {a0 : Nat} {x1 : Int32}  (k : (am_L 8 a0 h) ∧ (EvM w mX9_get d [.ref (a0 + 3), .int x1] h (fun r3 h2 => ∃ v4 : Int32, r3 = some (.int v4) ∧ (Ev w (am_Z w) mX8_nameKey (d + 1) 14 [(0, .ref a0), (2, .int v4), (3, .long 0), (5, .int v4)] [] h2 Q)))) : EvM w mX8_nameKey (d + 1) [.ref a0, .int x1] h Q := by
  show Ev w (am_Z w) mX8_nameKey (d + 1) 0 [(0, .ref a0), (1, .int x1)] [] h Q
  refine Ev.aload_n 0 (am_dt kX8_nameKey 0 rfl) rfl rfl ?_
  obtain ⟨f1, k⟩ := k
  refine Ev.getRe (ci := 8) (k := 2) (r := a0 + 3) (am_dt kX8_nameKey 1 rfl) (by decide) (by decide) rfl wd_82 f1.1 (am_L.r f1 2 rfl) (by omega) ?_
  refine Ev.iload_n 1 (am_dt kX8_nameKey 2 rfl) rfl rfl ?_
  refine Ev.callSN (v := mX9_get) (As := [.ref (a0 + 3), .int x1]) (st := []) okX9_get wd_19 wd_94 (am_dt kX8_nameKey 3 rfl) rfl rfl (Nat.le_of_ble_eq_true rfl) (Nat.le_of_ble_eq_true rfl) ?_
  refine EvM.mono k (fun r3 h2 k => ?_)
  obtain ⟨v4, rfl, k⟩ := k
  show Ev w _ _ _ 8 _ [.int v4] _ _
  refine Ev.istore_n (lv' := [(2, .int v4), (0, .ref a0), (1, .int x1)]) (am_dt kX8_nameKey 4 rfl) rfl (by decide) rfl ?_
  refine Ev.lconst (v := 0) (am_dt kX8_nameKey 5 rfl) (by decide) ?_
  refine Ev.lstore_n (lv' := [(3, .long 0), (2, .int v4), (0, .ref a0), (1, .int x1)]) (am_dt kX8_nameKey 6 rfl) rfl (by decide) rfl ?_
  refine Ev.iload_n 1 (am_dt kX8_nameKey 7 rfl) rfl rfl ?_
  refine Ev.istore (lv' := [(5, .int v4), (3, .long 0), (2, .int v4), (0, .ref a0), (1, .int x1)]) (am_dt kX8_nameKey 8 rfl) (by decide) rfl ?_
  exact Ev.sub [3, 2, 1, 0] rfl k
set_option maxRecDepth 20000 in
set_option maxHeartbeats 2000000 in
theorem bX8_nameKey_14 {w : am_W} {d : Nat} {h : am_H} {Q : Option Value → am_H → Prop} {a0 : Nat} {x2 : Int32} {y3 : Int64} {x5 : Int32}  (k : ((x2 + 8) ≤ x5 → (Q (some (.long y3)) h)) ∧ (¬ (x2 + 8) ≤ x5 → ((am_L 8 a0 h) ∧ (EvM w mX8_signAt d [.ref a0, .int x5] h (fun r3 h2 => ∃ v4 : Int32, r3 = some (.int v4) ∧ (EvM w mX8_isLetter d [.int v4] h2 (fun r6 h5 => ∃ v7 : Int32, r6 = some (.int v7) ∧ ((v7 = 0 → (Q (some (.long y3)) h5)) ∧ (¬ v7 = 0 → ((am_L 8 a0 h5) ∧ (EvM w mX8_signAt d [.ref a0, .int x5] h5 (fun r10 h9 => ∃ v11 : Int32, r10 = some (.int v11) ∧ (Ev w (am_Z w) mX8_nameKey (d + 1) 14 [(0, .ref a0), (2, .int x2), (3, .long ((y3 * 32) + (Int32.toInt64 ((v11 - 97) + 1)))), (5, .int (x5 + 1))] [] h9 Q))))))))))))) : Ev w (am_Z w) mX8_nameKey (d + 1) 14 [(0, .ref a0), (2, .int x2), (3, .long y3), (5, .int x5)] [] h Q := by
  refine Ev.iload 3 (am_dt kX8_nameKey 9 rfl) rfl ?_
  refine Ev.iload_n 1 (am_dt kX8_nameKey 10 rfl) rfl rfl ?_
  refine Ev.bipush (v := 8) (am_dt kX8_nameKey 11 rfl) (by decide) ?_
  refine Ev.iadd (am_dt kX8_nameKey 12 rfl) ?_
  refine Ev.icmp_ge (tgt := 60) (am_dt kX8_nameKey 13 rfl) (by decide) (fun c => ?_) (fun c => ?_)
  · have k := k.1 c
    refine Ev.lload_n 2 (am_dt kX8_nameKey 34 rfl) rfl rfl ?_
    exact Ev.lret (am_dt kX8_nameKey 35 rfl) rfl k
  · have k := k.2 c
    refine Ev.aload_n 0 (am_dt kX8_nameKey 14 rfl) rfl rfl ?_
    refine Ev.iload 3 (am_dt kX8_nameKey 15 rfl) rfl ?_
    obtain ⟨f1, k⟩ := k
    refine Ev.callV (ci := 8) (v := mX8_signAt) (As := [.int x5]) (st := []) okX8_signAt wd_87 wd_88 wd_89 (am_dt kX8_nameKey 16 rfl) (by decide) rfl rfl (Nat.le_of_ble_eq_true rfl) (Nat.le_of_ble_eq_true rfl) f1.1 ?_
    refine EvM.mono k (fun r3 h2 k => ?_)
    obtain ⟨v4, rfl, k⟩ := k
    show Ev w _ _ _ 29 _ [.int v4] _ _
    refine Ev.callS (v := mX8_isLetter) (As := [.int v4]) (st := []) okX8_isLetter wd_91 wd_90 (am_dt kX8_nameKey 17 rfl) rfl rfl (Nat.le_of_ble_eq_true rfl) (Nat.le_of_ble_eq_true rfl) ?_
    refine EvM.mono k (fun r6 h5 k => ?_)
    obtain ⟨v7, rfl, k⟩ := k
    show Ev w _ _ _ 32 _ [.int v7] _ _
    refine Ev.if_eq (tgt := 60) (am_dt kX8_nameKey 18 rfl) (by decide) (fun c => ?_) (fun c => ?_)
    · have k := k.1 c
      refine Ev.lload_n 2 (am_dt kX8_nameKey 34 rfl) rfl rfl ?_
      exact Ev.lret (am_dt kX8_nameKey 35 rfl) rfl k
    · have k := k.2 c
      refine Ev.lload_n 2 (am_dt kX8_nameKey 19 rfl) rfl rfl ?_
      refine Ev.ldc2 (v := 32) (am_dt kX8_nameKey 20 rfl) wd_95 ?_
      refine Ev.lmul (am_dt kX8_nameKey 21 rfl) ?_
      refine Ev.aload_n 0 (am_dt kX8_nameKey 22 rfl) rfl rfl ?_
      refine Ev.iload 3 (am_dt kX8_nameKey 23 rfl) rfl ?_
      obtain ⟨f8, k⟩ := k
      refine Ev.callV (ci := 8) (v := mX8_signAt) (As := [.int x5]) (st := [.long (y3 * 32)]) okX8_signAt wd_87 wd_88 wd_89 (am_dt kX8_nameKey 24 rfl) (by decide) rfl rfl (Nat.le_of_ble_eq_true rfl) (Nat.le_of_ble_eq_true rfl) f8.1 ?_
      refine EvM.mono k (fun r10 h9 k => ?_)
      obtain ⟨v11, rfl, k⟩ := k
      show Ev w _ _ _ 46 _ [.int v11, .long (y3 * 32)] _ _
      refine Ev.bipush (v := 97) (am_dt kX8_nameKey 25 rfl) (by decide) ?_
      refine Ev.isub (am_dt kX8_nameKey 26 rfl) ?_
      refine Ev.iconst (v := 1) (am_dt kX8_nameKey 27 rfl) (by decide) ?_
      refine Ev.iadd (am_dt kX8_nameKey 28 rfl) ?_
      refine Ev.i2l (am_dt kX8_nameKey 29 rfl) ?_
      refine Ev.ladd (am_dt kX8_nameKey 30 rfl) ?_
      refine Ev.lstore_n (lv' := [(3, .long ((y3 * 32) + (Int32.toInt64 ((v11 - 97) + 1)))), (0, .ref a0), (2, .int x2), (5, .int x5)]) (am_dt kX8_nameKey 31 rfl) rfl (by decide) rfl ?_
      refine Ev.iinc (v := x5 + 1) (lv' := [(5, .int (x5 + 1)), (3, .long ((y3 * 32) + (Int32.toInt64 ((v11 - 97) + 1)))), (0, .ref a0), (2, .int x2)]) 3 (am_dt kX8_nameKey 32 rfl) rfl rfl (by decide) rfl ?_
      refine Ev.goto (tgt := 14) (am_dt kX8_nameKey 33 rfl) (by decide) ?_
      exact Ev.sub [2, 3, 1, 0] rfl k
set_option maxRecDepth 20000 in
set_option maxHeartbeats 2000000 in
theorem bX8_numberValue_0 {w : am_W} {d : Nat} {h : am_H} {Q : Option Value → am_H → Prop} {a0 : Nat} {x1 : Int32}  (k : (am_L 8 a0 h) ∧ (EvM w mX9_get d [.ref (a0 + 3), .int x1] h (fun r3 h2 => ∃ v4 : Int32, r3 = some (.int v4) ∧ (Ev w (am_Z w) mX8_numberValue (d + 1) 14 [(0, .ref a0), (2, .int v4), (3, .int 0), (4, .int v4)] [] h2 Q)))) : EvM w mX8_numberValue (d + 1) [.ref a0, .int x1] h Q := by
  show Ev w (am_Z w) mX8_numberValue (d + 1) 0 [(0, .ref a0), (1, .int x1)] [] h Q
  refine Ev.aload_n 0 (am_dt kX8_numberValue 0 rfl) rfl rfl ?_
  obtain ⟨f1, k⟩ := k
  refine Ev.getRe (ci := 8) (k := 2) (r := a0 + 3) (am_dt kX8_numberValue 1 rfl) (by decide) (by decide) rfl wd_82 f1.1 (am_L.r f1 2 rfl) (by omega) ?_
  refine Ev.iload_n 1 (am_dt kX8_numberValue 2 rfl) rfl rfl ?_
  refine Ev.callSN (v := mX9_get) (As := [.ref (a0 + 3), .int x1]) (st := []) okX9_get wd_19 wd_94 (am_dt kX8_numberValue 3 rfl) rfl rfl (Nat.le_of_ble_eq_true rfl) (Nat.le_of_ble_eq_true rfl) ?_
  refine EvM.mono k (fun r3 h2 k => ?_)
  obtain ⟨v4, rfl, k⟩ := k
  show Ev w _ _ _ 8 _ [.int v4] _ _
  refine Ev.istore_n (lv' := [(2, .int v4), (0, .ref a0), (1, .int x1)]) (am_dt kX8_numberValue 4 rfl) rfl (by decide) rfl ?_
  refine Ev.iconst (v := 0) (am_dt kX8_numberValue 5 rfl) (by decide) ?_
  refine Ev.istore_n (lv' := [(3, .int 0), (2, .int v4), (0, .ref a0), (1, .int x1)]) (am_dt kX8_numberValue 6 rfl) rfl (by decide) rfl ?_
  refine Ev.iload_n 1 (am_dt kX8_numberValue 7 rfl) rfl rfl ?_
  refine Ev.istore (lv' := [(4, .int v4), (3, .int 0), (2, .int v4), (0, .ref a0), (1, .int x1)]) (am_dt kX8_numberValue 8 rfl) (by decide) rfl ?_
  exact Ev.sub [3, 2, 1, 0] rfl k
set_option maxRecDepth 20000 in
set_option maxHeartbeats 2000000 in
theorem bX8_numberValue_14 {w : am_W} {d : Nat} {h : am_H} {Q : Option Value → am_H → Prop} {a0 : Nat} {x2 : Int32} {x3 : Int32} {x4 : Int32}  (k : ((x2 + 4) ≤ x4 → (Q (some (.int x3)) h)) ∧ (¬ (x2 + 4) ≤ x4 → ((am_L 8 a0 h) ∧ (EvM w mX8_signAt d [.ref a0, .int x4] h (fun r3 h2 => ∃ v4 : Int32, r3 = some (.int v4) ∧ (EvM w mX8_isDigit d [.int v4] h2 (fun r6 h5 => ∃ v7 : Int32, r6 = some (.int v7) ∧ ((v7 = 0 → (Q (some (.int x3)) h5)) ∧ (¬ v7 = 0 → ((am_L 8 a0 h5) ∧ (EvM w mX8_signAt d [.ref a0, .int x4] h5 (fun r10 h9 => ∃ v11 : Int32, r10 = some (.int v11) ∧ (Ev w (am_Z w) mX8_numberValue (d + 1) 14 [(0, .ref a0), (2, .int x2), (3, .int ((x3 * 10) + (v11 - 48))), (4, .int (x4 + 1))] [] h9 Q))))))))))))) : Ev w (am_Z w) mX8_numberValue (d + 1) 14 [(0, .ref a0), (2, .int x2), (3, .int x3), (4, .int x4)] [] h Q := by
  refine Ev.iload 3 (am_dt kX8_numberValue 9 rfl) rfl ?_
  refine Ev.iload_n 1 (am_dt kX8_numberValue 10 rfl) rfl rfl ?_
  refine Ev.iconst (v := 4) (am_dt kX8_numberValue 11 rfl) (by decide) ?_
  refine Ev.iadd (am_dt kX8_numberValue 12 rfl) ?_
  refine Ev.icmp_ge (tgt := 55) (am_dt kX8_numberValue 13 rfl) (by decide) (fun c => ?_) (fun c => ?_)
  · have k := k.1 c
    refine Ev.iload_n 2 (am_dt kX8_numberValue 31 rfl) rfl rfl ?_
    exact Ev.iret .int (am_dt kX8_numberValue 32 rfl) rfl rfl k
  · have k := k.2 c
    refine Ev.aload_n 0 (am_dt kX8_numberValue 14 rfl) rfl rfl ?_
    refine Ev.iload 3 (am_dt kX8_numberValue 15 rfl) rfl ?_
    obtain ⟨f1, k⟩ := k
    refine Ev.callV (ci := 8) (v := mX8_signAt) (As := [.int x4]) (st := []) okX8_signAt wd_87 wd_88 wd_89 (am_dt kX8_numberValue 16 rfl) (by decide) rfl rfl (Nat.le_of_ble_eq_true rfl) (Nat.le_of_ble_eq_true rfl) f1.1 ?_
    refine EvM.mono k (fun r3 h2 k => ?_)
    obtain ⟨v4, rfl, k⟩ := k
    show Ev w _ _ _ 28 _ [.int v4] _ _
    refine Ev.callS (v := mX8_isDigit) (As := [.int v4]) (st := []) okX8_isDigit wd_93 wd_92 (am_dt kX8_numberValue 17 rfl) rfl rfl (Nat.le_of_ble_eq_true rfl) (Nat.le_of_ble_eq_true rfl) ?_
    refine EvM.mono k (fun r6 h5 k => ?_)
    obtain ⟨v7, rfl, k⟩ := k
    show Ev w _ _ _ 31 _ [.int v7] _ _
    refine Ev.if_eq (tgt := 55) (am_dt kX8_numberValue 18 rfl) (by decide) (fun c => ?_) (fun c => ?_)
    · have k := k.1 c
      refine Ev.iload_n 2 (am_dt kX8_numberValue 31 rfl) rfl rfl ?_
      exact Ev.iret .int (am_dt kX8_numberValue 32 rfl) rfl rfl k
    · have k := k.2 c
      refine Ev.iload_n 2 (am_dt kX8_numberValue 19 rfl) rfl rfl ?_
      refine Ev.bipush (v := 10) (am_dt kX8_numberValue 20 rfl) (by decide) ?_
      refine Ev.imul (am_dt kX8_numberValue 21 rfl) ?_
      refine Ev.aload_n 0 (am_dt kX8_numberValue 22 rfl) rfl rfl ?_
      refine Ev.iload 3 (am_dt kX8_numberValue 23 rfl) rfl ?_
      obtain ⟨f8, k⟩ := k
      refine Ev.callV (ci := 8) (v := mX8_signAt) (As := [.int x4]) (st := [.int (x3 * 10)]) okX8_signAt wd_87 wd_88 wd_89 (am_dt kX8_numberValue 24 rfl) (by decide) rfl rfl (Nat.le_of_ble_eq_true rfl) (Nat.le_of_ble_eq_true rfl) f8.1 ?_
      refine EvM.mono k (fun r10 h9 k => ?_)
      obtain ⟨v11, rfl, k⟩ := k
      show Ev w _ _ _ 44 _ [.int v11, .int (x3 * 10)] _ _
      refine Ev.bipush (v := 48) (am_dt kX8_numberValue 25 rfl) (by decide) ?_
      refine Ev.isub (am_dt kX8_numberValue 26 rfl) ?_
      refine Ev.iadd (am_dt kX8_numberValue 27 rfl) ?_
      refine Ev.istore_n (lv' := [(3, .int ((x3 * 10) + (v11 - 48))), (0, .ref a0), (2, .int x2), (4, .int x4)]) (am_dt kX8_numberValue 28 rfl) rfl (by decide) rfl ?_
      refine Ev.iinc (v := x4 + 1) (lv' := [(4, .int (x4 + 1)), (3, .int ((x3 * 10) + (v11 - 48))), (0, .ref a0), (2, .int x2)]) 3 (am_dt kX8_numberValue 29 rfl) rfl rfl (by decide) rfl ?_
      refine Ev.goto (tgt := 14) (am_dt kX8_numberValue 30 rfl) (by decide) ?_
      exact Ev.sub [2, 3, 1, 0] rfl k
