set_option maxRecDepth 20000 in
set_option maxHeartbeats 2000000 in
theorem bX0_init_0 {w : am_W} {d : Nat} {h : am_H} {Q : Option Value → am_H → Prop} {a0 : Nat} {x1 : Int32}  (k : (¬ (if 0 < x1 then x1 else 0) < 0 ∧ Int32.toNatClampNeg (if 0 < x1 then x1 else 0) ≤ 50000000) ∧ (∀ h1 : am_H, h1 = nA h 12 (Int32.toNatClampNeg (if 0 < x1 then x1 else 0)) → ((hK h1 a0 = 0) ∧ ((hZ h ≠ 0) ∧ (∀ h5 : am_H, h5 = sR h1 a0 0 (hZ h) → (Q none h5)))))) : EvM w mX0_init (d + 1) [.ref a0, .int x1] h Q := by
  show Ev w (am_Z w) mX0_init (d + 1) 0 [(0, .ref a0), (1, .int x1)] [] h Q
  refine Ev.aload_n 0 (am_dt kX0_init 0 rfl) rfl rfl ?_
  refine Ev.objI wd_1 wd_2 wd_3 (am_dt kX0_init 1 rfl) (Nat.le_of_ble_eq_true rfl) ?_
  refine Ev.aload_n 0 (am_dt kX0_init 2 rfl) rfl rfl ?_
  refine Ev.iconst (v := 0) (am_dt kX0_init 3 rfl) (by decide) ?_
  refine Ev.iload_n 1 (am_dt kX0_init 4 rfl) rfl rfl ?_
  refine Ev.mmax wd_4 wd_5 wd_6 wd_7 (am_dt kX0_init 5 rfl) (Nat.le_of_ble_eq_true rfl) ?_
  obtain ⟨f2, k⟩ := k
  refine Ev.newI' (N := (Int32.toNatClampNeg (if 0 < x1 then x1 else 0))) (am_dt kX0_init 6 rfl) wd_9 f2.1 rfl (by have := f2.2; omega) (fun h1 eh1 => ?_)
  have k := k h1 eh1
  obtain ⟨f3, k⟩ := k
  obtain ⟨f4, k⟩ := k
  refine Ev.putRF' (ci := 0) (k := 0) (am_dt kX0_init 7 rfl) (by decide) (by decide) wd_8 rfl rfl rfl rfl rfl rfl f4 f3 (fun h5 eh5 => ?_)
  have k := k h5 eh5
  have f3 := kR eh5 f3
  exact Ev.vret (am_dt kX0_init 8 rfl) rfl k
set_option maxRecDepth 20000 in
set_option maxHeartbeats 2000000 in
theorem bX0_empty_0 {w : am_W} {d : Nat} {h : am_H} {Q : Option Value → am_H → Prop} {a0 : Nat}  (k : (am_L 0 a0 h) ∧ (∀ h2 : am_H, h2 = sI h a0 1 0 → (∀ h3 : am_H, h3 = sI h2 a0 2 0 → (∀ h4 : am_H, h4 = sI h3 a0 3 0 → (∀ h5 : am_H, h5 = sI h4 a0 4 0 → (∀ h6 : am_H, h6 = sI h5 a0 5 0 → (Q none h6))))))) : EvM w mX0_empty d [.ref a0] h Q := by
  show Ev w (am_Z w) mX0_empty d 0 [(0, .ref a0)] [] h Q
  refine Ev.aload_n 0 (am_dt kX0_empty 0 rfl) rfl rfl ?_
  refine Ev.iconst (v := 0) (am_dt kX0_empty 1 rfl) (by decide) ?_
  obtain ⟨f1, k⟩ := k
  refine Ev.putI' (ci := 0) (k := 1) (am_dt kX0_empty 2 rfl) (by decide) (by decide) wd_10 rfl rfl rfl rfl f1.1 (fun h2 eh2 => ?_)
  have k := k h2 eh2
  have f1 := am_LsI eh2 f1
  refine Ev.aload_n 0 (am_dt kX0_empty 3 rfl) rfl rfl ?_
  refine Ev.iconst (v := 0) (am_dt kX0_empty 4 rfl) (by decide) ?_
  refine Ev.putI' (ci := 0) (k := 2) (am_dt kX0_empty 5 rfl) (by decide) (by decide) wd_11 rfl rfl rfl rfl f1.1 (fun h3 eh3 => ?_)
  have k := k h3 eh3
  have f1 := am_LsI eh3 f1
  refine Ev.aload_n 0 (am_dt kX0_empty 6 rfl) rfl rfl ?_
  refine Ev.iconst (v := 0) (am_dt kX0_empty 7 rfl) (by decide) ?_
  refine Ev.putI' (ci := 0) (k := 3) (am_dt kX0_empty 8 rfl) (by decide) (by decide) wd_12 rfl rfl rfl rfl f1.1 (fun h4 eh4 => ?_)
  have k := k h4 eh4
  have f1 := am_LsI eh4 f1
  refine Ev.aload_n 0 (am_dt kX0_empty 9 rfl) rfl rfl ?_
  refine Ev.iconst (v := 0) (am_dt kX0_empty 10 rfl) (by decide) ?_
  refine Ev.putI' (ci := 0) (k := 4) (am_dt kX0_empty 11 rfl) (by decide) (by decide) wd_13 rfl rfl rfl rfl f1.1 (fun h5 eh5 => ?_)
  have k := k h5 eh5
  have f1 := am_LsI eh5 f1
  refine Ev.aload_n 0 (am_dt kX0_empty 12 rfl) rfl rfl ?_
  refine Ev.iconst (v := 0) (am_dt kX0_empty 13 rfl) (by decide) ?_
  refine Ev.putI' (ci := 0) (k := 5) (am_dt kX0_empty 14 rfl) (by decide) (by decide) wd_14 rfl rfl rfl rfl f1.1 (fun h6 eh6 => ?_)
  have k := k h6 eh6
  have f1 := am_LsI eh6 f1
  exact Ev.vret (am_dt kX0_empty 15 rfl) rfl k
set_option maxRecDepth 20000 in
set_option maxHeartbeats 2000000 in
theorem bX0_join_0 {w : am_W} {d : Nat} {h : am_H} {Q : Option Value → am_H → Prop} {a0 : Nat} {x1 : Int32} {a2 : Nat}  (k : (am_L 0 a0 h) ∧ (EvM w mX9_set d [.ref (a0 + 1), .int (hI h a0 2), .int x1] h (fun r3 h2 => r3 = none ∧ ((am_L 0 a0 h2) ∧ (∀ h5 : am_H, h5 = sI h2 a0 2 ((hI h2 a0 2) + 1) → ((am_L 2 a2 h5) ∧ (EvM w mX9_get d [.ref (a2 + 4), .int x1] h5 (fun r8 h7 => ∃ v9 : Int32, r8 = some (.int v9) ∧ ((am_L 0 a0 h7) ∧ (∀ h11 : am_H, h11 = sI h7 a0 3 ((hI h5 a0 3) + v9) → ((am_L 2 a2 h11) ∧ (EvM w mX9_get d [.ref (a2 + 3), .int x1] h11 (fun r14 h13 => ∃ v15 : Int32, r14 = some (.int v15) ∧ ((am_L 0 a0 h13) ∧ (∀ h17 : am_H, h17 = sI h13 a0 4 ((hI h11 a0 4) + v15) → (Q none h17)))))))))))))))) : EvM w mX0_join (d + 1) [.ref a0, .int x1, .ref a2] h Q := by
  show Ev w (am_Z w) mX0_join (d + 1) 0 [(0, .ref a0), (1, .int x1), (2, .ref a2)] [] h Q
  refine Ev.aload_n 0 (am_dt kX0_join 0 rfl) rfl rfl ?_
  obtain ⟨f1, k⟩ := k
  refine Ev.getRe (ci := 0) (k := 0) (r := a0 + 1) (am_dt kX0_join 1 rfl) (by decide) (by decide) rfl wd_8 f1.1 (am_L.r f1 0 rfl) (by omega) ?_
  refine Ev.aload_n 0 (am_dt kX0_join 2 rfl) rfl rfl ?_
  refine Ev.getI (ci := 0) (k := 2) (am_dt kX0_join 3 rfl) (by decide) (by decide) rfl wd_11 f1.1 ?_
  refine Ev.iload_n 1 (am_dt kX0_join 4 rfl) rfl rfl ?_
  refine Ev.callSN (v := mX9_set) (As := [.ref (a0 + 1), .int (hI h a0 2), .int x1]) (st := []) okX9_set wd_16 wd_15 (am_dt kX0_join 5 rfl) rfl rfl (Nat.le_of_ble_eq_true rfl) (Nat.le_of_ble_eq_true rfl) ?_
  refine EvM.mono k (fun r3 h2 k => ?_)
  obtain ⟨rfl, k⟩ := k
  show Ev w _ _ _ 12 _ [] _ _
  refine Ev.aload_n 0 (am_dt kX0_join 6 rfl) rfl rfl ?_
  refine Ev.dup (am_dt kX0_join 7 rfl) rfl ?_
  obtain ⟨f4, k⟩ := k
  refine Ev.getI (ci := 0) (k := 2) (am_dt kX0_join 8 rfl) (by decide) (by decide) rfl wd_11 f4.1 ?_
  refine Ev.iconst (v := 1) (am_dt kX0_join 9 rfl) (by decide) ?_
  refine Ev.iadd (am_dt kX0_join 10 rfl) ?_
  refine Ev.putI' (ci := 0) (k := 2) (am_dt kX0_join 11 rfl) (by decide) (by decide) wd_11 rfl rfl rfl rfl f4.1 (fun h5 eh5 => ?_)
  have k := k h5 eh5
  have f4 := am_LsI eh5 f4
  refine Ev.aload_n 0 (am_dt kX0_join 12 rfl) rfl rfl ?_
  refine Ev.dup (am_dt kX0_join 13 rfl) rfl ?_
  refine Ev.getI (ci := 0) (k := 3) (am_dt kX0_join 14 rfl) (by decide) (by decide) rfl wd_12 f4.1 ?_
  refine Ev.aload_n 2 (am_dt kX0_join 15 rfl) rfl rfl ?_
  obtain ⟨f6, k⟩ := k
  refine Ev.getRe (ci := 2) (k := 3) (r := a2 + 4) (am_dt kX0_join 16 rfl) (by decide) (by decide) rfl wd_17 f6.1 (am_L.r f6 3 rfl) (by omega) ?_
  refine Ev.iload_n 1 (am_dt kX0_join 17 rfl) rfl rfl ?_
  refine Ev.callSN (v := mX9_get) (As := [.ref (a2 + 4), .int x1]) (st := [.int (hI h5 a0 3), .ref a0]) okX9_get wd_19 wd_18 (am_dt kX0_join 18 rfl) rfl rfl (Nat.le_of_ble_eq_true rfl) (Nat.le_of_ble_eq_true rfl) ?_
  refine EvM.mono k (fun r8 h7 k => ?_)
  obtain ⟨v9, rfl, k⟩ := k
  show Ev w _ _ _ 35 _ [.int v9, .int (hI h5 a0 3), .ref a0] _ _
  refine Ev.iadd (am_dt kX0_join 19 rfl) ?_
  obtain ⟨f10, k⟩ := k
  refine Ev.putI' (ci := 0) (k := 3) (am_dt kX0_join 20 rfl) (by decide) (by decide) wd_12 rfl rfl rfl rfl f10.1 (fun h11 eh11 => ?_)
  have k := k h11 eh11
  have f10 := am_LsI eh11 f10
  refine Ev.aload_n 0 (am_dt kX0_join 21 rfl) rfl rfl ?_
  refine Ev.dup (am_dt kX0_join 22 rfl) rfl ?_
  refine Ev.getI (ci := 0) (k := 4) (am_dt kX0_join 23 rfl) (by decide) (by decide) rfl wd_13 f10.1 ?_
  refine Ev.aload_n 2 (am_dt kX0_join 24 rfl) rfl rfl ?_
  obtain ⟨f12, k⟩ := k
  refine Ev.getRe (ci := 2) (k := 2) (r := a2 + 3) (am_dt kX0_join 25 rfl) (by decide) (by decide) rfl wd_20 f12.1 (am_L.r f12 2 rfl) (by omega) ?_
  refine Ev.iload_n 1 (am_dt kX0_join 26 rfl) rfl rfl ?_
  refine Ev.callSN (v := mX9_get) (As := [.ref (a2 + 3), .int x1]) (st := [.int (hI h11 a0 4), .ref a0]) okX9_get wd_19 wd_18 (am_dt kX0_join 27 rfl) rfl rfl (Nat.le_of_ble_eq_true rfl) (Nat.le_of_ble_eq_true rfl) ?_
  refine EvM.mono k (fun r14 h13 k => ?_)
  obtain ⟨v15, rfl, k⟩ := k
  show Ev w _ _ _ 52 _ [.int v15, .int (hI h11 a0 4), .ref a0] _ _
  refine Ev.iadd (am_dt kX0_join 28 rfl) ?_
  obtain ⟨f16, k⟩ := k
  refine Ev.putI' (ci := 0) (k := 4) (am_dt kX0_join 29 rfl) (by decide) (by decide) wd_13 rfl rfl rfl rfl f16.1 (fun h17 eh17 => ?_)
  have k := k h17 eh17
  have f16 := am_LsI eh17 f16
  exact Ev.vret (am_dt kX0_join 30 rfl) rfl k
set_option maxRecDepth 20000 in
set_option maxHeartbeats 2000000 in
theorem bX0_leaveFirst_0 {w : am_W} {d : Nat} {h : am_H} {Q : Option Value → am_H → Prop} {a0 : Nat} {a1 : Nat}  (k : (am_L 0 a0 h) ∧ (EvM w mX9_get d [.ref (a0 + 1), .int (hI h a0 1)] h (fun r3 h2 => ∃ v4 : Int32, r3 = some (.int v4) ∧ ((am_L 0 a0 h2) ∧ (∀ h6 : am_H, h6 = sI h2 a0 1 ((hI h2 a0 1) + 1) → ((am_L 2 a1 h6) ∧ (EvM w mX9_get d [.ref (a1 + 4), .int v4] h6 (fun r9 h8 => ∃ v10 : Int32, r9 = some (.int v10) ∧ ((am_L 0 a0 h8) ∧ (∀ h12 : am_H, h12 = sI h8 a0 3 ((hI h6 a0 3) - v10) → ((am_L 2 a1 h12) ∧ (EvM w mX9_get d [.ref (a1 + 3), .int v4] h12 (fun r15 h14 => ∃ v16 : Int32, r15 = some (.int v16) ∧ ((am_L 0 a0 h14) ∧ (∀ h18 : am_H, h18 = sI h14 a0 4 ((hI h12 a0 4) - v16) → (Q none h18)))))))))))))))) : EvM w mX0_leaveFirst (d + 1) [.ref a0, .ref a1] h Q := by
  show Ev w (am_Z w) mX0_leaveFirst (d + 1) 0 [(0, .ref a0), (1, .ref a1)] [] h Q
  refine Ev.aload_n 0 (am_dt kX0_leaveFirst 0 rfl) rfl rfl ?_
  obtain ⟨f1, k⟩ := k
  refine Ev.getRe (ci := 0) (k := 0) (r := a0 + 1) (am_dt kX0_leaveFirst 1 rfl) (by decide) (by decide) rfl wd_8 f1.1 (am_L.r f1 0 rfl) (by omega) ?_
  refine Ev.aload_n 0 (am_dt kX0_leaveFirst 2 rfl) rfl rfl ?_
  refine Ev.getI (ci := 0) (k := 1) (am_dt kX0_leaveFirst 3 rfl) (by decide) (by decide) rfl wd_10 f1.1 ?_
  refine Ev.callSN (v := mX9_get) (As := [.ref (a0 + 1), .int (hI h a0 1)]) (st := []) okX9_get wd_19 wd_18 (am_dt kX0_leaveFirst 4 rfl) rfl rfl (Nat.le_of_ble_eq_true rfl) (Nat.le_of_ble_eq_true rfl) ?_
  refine EvM.mono k (fun r3 h2 k => ?_)
  obtain ⟨v4, rfl, k⟩ := k
  show Ev w _ _ _ 11 _ [.int v4] _ _
  refine Ev.istore_n (lv' := [(2, .int v4), (0, .ref a0), (1, .ref a1)]) (am_dt kX0_leaveFirst 5 rfl) rfl (by decide) rfl ?_
  refine Ev.aload_n 1 (am_dt kX0_leaveFirst 6 rfl) rfl rfl ?_
  refine Ev.dup (am_dt kX0_leaveFirst 7 rfl) rfl ?_
  obtain ⟨f5, k⟩ := k
  refine Ev.getI (ci := 0) (k := 1) (am_dt kX0_leaveFirst 8 rfl) (by decide) (by decide) rfl wd_10 f5.1 ?_
  refine Ev.iconst (v := 1) (am_dt kX0_leaveFirst 9 rfl) (by decide) ?_
  refine Ev.iadd (am_dt kX0_leaveFirst 10 rfl) ?_
  refine Ev.putI' (ci := 0) (k := 1) (am_dt kX0_leaveFirst 11 rfl) (by decide) (by decide) wd_10 rfl rfl rfl rfl f5.1 (fun h6 eh6 => ?_)
  have k := k h6 eh6
  have f5 := am_LsI eh6 f5
  refine Ev.aload_n 1 (am_dt kX0_leaveFirst 12 rfl) rfl rfl ?_
  refine Ev.dup (am_dt kX0_leaveFirst 13 rfl) rfl ?_
  refine Ev.getI (ci := 0) (k := 3) (am_dt kX0_leaveFirst 14 rfl) (by decide) (by decide) rfl wd_12 f5.1 ?_
  refine Ev.aload_n 2 (am_dt kX0_leaveFirst 15 rfl) rfl rfl ?_
  obtain ⟨f7, k⟩ := k
  refine Ev.getRe (ci := 2) (k := 3) (r := a1 + 4) (am_dt kX0_leaveFirst 16 rfl) (by decide) (by decide) rfl wd_17 f7.1 (am_L.r f7 3 rfl) (by omega) ?_
  refine Ev.iload_n 0 (am_dt kX0_leaveFirst 17 rfl) rfl rfl ?_
  refine Ev.callSN (v := mX9_get) (As := [.ref (a1 + 4), .int v4]) (st := [.int (hI h6 a0 3), .ref a0]) okX9_get wd_19 wd_18 (am_dt kX0_leaveFirst 18 rfl) rfl rfl (Nat.le_of_ble_eq_true rfl) (Nat.le_of_ble_eq_true rfl) ?_
  refine EvM.mono k (fun r9 h8 k => ?_)
  obtain ⟨v10, rfl, k⟩ := k
  show Ev w _ _ _ 35 _ [.int v10, .int (hI h6 a0 3), .ref a0] _ _
  refine Ev.isub (am_dt kX0_leaveFirst 19 rfl) ?_
  obtain ⟨f11, k⟩ := k
  refine Ev.putI' (ci := 0) (k := 3) (am_dt kX0_leaveFirst 20 rfl) (by decide) (by decide) wd_12 rfl rfl rfl rfl f11.1 (fun h12 eh12 => ?_)
  have k := k h12 eh12
  have f11 := am_LsI eh12 f11
  refine Ev.aload_n 1 (am_dt kX0_leaveFirst 21 rfl) rfl rfl ?_
  refine Ev.dup (am_dt kX0_leaveFirst 22 rfl) rfl ?_
  refine Ev.getI (ci := 0) (k := 4) (am_dt kX0_leaveFirst 23 rfl) (by decide) (by decide) rfl wd_13 f11.1 ?_
  refine Ev.aload_n 2 (am_dt kX0_leaveFirst 24 rfl) rfl rfl ?_
  obtain ⟨f13, k⟩ := k
  refine Ev.getRe (ci := 2) (k := 2) (r := a1 + 3) (am_dt kX0_leaveFirst 25 rfl) (by decide) (by decide) rfl wd_20 f13.1 (am_L.r f13 2 rfl) (by omega) ?_
  refine Ev.iload_n 0 (am_dt kX0_leaveFirst 26 rfl) rfl rfl ?_
  refine Ev.callSN (v := mX9_get) (As := [.ref (a1 + 3), .int v4]) (st := [.int (hI h12 a0 4), .ref a0]) okX9_get wd_19 wd_18 (am_dt kX0_leaveFirst 27 rfl) rfl rfl (Nat.le_of_ble_eq_true rfl) (Nat.le_of_ble_eq_true rfl) ?_
  refine EvM.mono k (fun r15 h14 k => ?_)
  obtain ⟨v16, rfl, k⟩ := k
  show Ev w _ _ _ 52 _ [.int v16, .int (hI h12 a0 4), .ref a0] _ _
  refine Ev.isub (am_dt kX0_leaveFirst 28 rfl) ?_
  obtain ⟨f17, k⟩ := k
  refine Ev.putI' (ci := 0) (k := 4) (am_dt kX0_leaveFirst 29 rfl) (by decide) (by decide) wd_13 rfl rfl rfl rfl f17.1 (fun h18 eh18 => ?_)
  have k := k h18 eh18
  have f17 := am_LsI eh18 f17
  exact Ev.vret (am_dt kX0_leaveFirst 30 rfl) rfl k
set_option maxRecDepth 20000 in
set_option maxHeartbeats 2000000 in
theorem bX0_leave_0 {w : am_W} {d : Nat} {h : am_H} {Q : Option Value → am_H → Prop} {a0 : Nat} {x1 : Int32} {a2 : Nat}  (k : (am_L 0 a0 h) ∧ (Ev w (am_Z w) mX0_leave (d + 1) 7 [(0, .ref a0), (1, .int x1), (2, .ref a2), (3, .int ((hI h a0 2) - 1))] [] h Q)) : EvM w mX0_leave (d + 1) [.ref a0, .int x1, .ref a2] h Q := by
  show Ev w (am_Z w) mX0_leave (d + 1) 0 [(0, .ref a0), (1, .int x1), (2, .ref a2)] [] h Q
  refine Ev.aload_n 0 (am_dt kX0_leave 0 rfl) rfl rfl ?_
  obtain ⟨f1, k⟩ := k
  refine Ev.getI (ci := 0) (k := 2) (am_dt kX0_leave 1 rfl) (by decide) (by decide) rfl wd_11 f1.1 ?_
  refine Ev.iconst (v := 1) (am_dt kX0_leave 2 rfl) (by decide) ?_
  refine Ev.isub (am_dt kX0_leave 3 rfl) ?_
  refine Ev.istore_n (lv' := [(3, .int ((hI h a0 2) - 1)), (0, .ref a0), (1, .int x1), (2, .ref a2)]) (am_dt kX0_leave 4 rfl) rfl (by decide) rfl ?_
  exact Ev.sub [1, 2, 3, 0] rfl k
set_option maxRecDepth 20000 in
set_option maxHeartbeats 2000000 in
theorem bX0_leave_7 {w : am_W} {d : Nat} {h : am_H} {Q : Option Value → am_H → Prop} {a0 : Nat} {x1 : Int32} {a2 : Nat} {x3 : Int32}  (k : (am_L 0 a0 h) ∧ ((x3 < (hI h a0 1) → (Q none h)) ∧ (¬ x3 < (hI h a0 1) → (EvM w mX9_get d [.ref (a0 + 1), .int x3] h (fun r3 h2 => ∃ v4 : Int32, r3 = some (.int v4) ∧ ((v4 = x1 → (Ev w (am_Z w) mX0_leave (d + 1) 30 [(0, .ref a0), (1, .int x1), (2, .ref a2), (4, .int x3)] [] h2 Q)) ∧ (¬ v4 = x1 → (Ev w (am_Z w) mX0_leave (d + 1) 7 [(0, .ref a0), (1, .int x1), (2, .ref a2), (3, .int (x3 + (-1)))] [] h2 Q)))))))) : Ev w (am_Z w) mX0_leave (d + 1) 7 [(0, .ref a0), (1, .int x1), (2, .ref a2), (3, .int x3)] [] h Q := by
  refine Ev.iload_n 3 (am_dt kX0_leave 5 rfl) rfl rfl ?_
  refine Ev.aload_n 0 (am_dt kX0_leave 6 rfl) rfl rfl ?_
  obtain ⟨f1, k⟩ := k
  refine Ev.getI (ci := 0) (k := 1) (am_dt kX0_leave 7 rfl) (by decide) (by decide) rfl wd_10 f1.1 ?_
  refine Ev.icmp_lt (tgt := 89) (am_dt kX0_leave 8 rfl) (by decide) (fun c => ?_) (fun c => ?_)
  · have k := k.1 c
    exact Ev.vret (am_dt kX0_leave 45 rfl) rfl k
  · have k := k.2 c
    refine Ev.aload_n 0 (am_dt kX0_leave 9 rfl) rfl rfl ?_
    refine Ev.getRe (ci := 0) (k := 0) (r := a0 + 1) (am_dt kX0_leave 10 rfl) (by decide) (by decide) rfl wd_8 f1.1 (am_L.r f1 0 rfl) (by omega) ?_
    refine Ev.iload_n 3 (am_dt kX0_leave 11 rfl) rfl rfl ?_
    refine Ev.callSN (v := mX9_get) (As := [.ref (a0 + 1), .int x3]) (st := []) okX9_get wd_19 wd_18 (am_dt kX0_leave 12 rfl) rfl rfl (Nat.le_of_ble_eq_true rfl) (Nat.le_of_ble_eq_true rfl) ?_
    refine EvM.mono k (fun r3 h2 k => ?_)
    obtain ⟨v4, rfl, k⟩ := k
    show Ev w _ _ _ 23 _ [.int v4] _ _
    refine Ev.iload_n 1 (am_dt kX0_leave 13 rfl) rfl rfl ?_
    refine Ev.icmp_ne (tgt := 83) (am_dt kX0_leave 14 rfl) (by decide) (fun c => ?_) (fun c => ?_)
    · have k := k.2 c
      refine Ev.iinc (v := x3 + (-1)) (lv' := [(3, .int (x3 + (-1))), (0, .ref a0), (1, .int x1), (2, .ref a2)]) 3 (am_dt kX0_leave 43 rfl) rfl rfl (by decide) rfl ?_
      refine Ev.goto (tgt := 7) (am_dt kX0_leave 44 rfl) (by decide) ?_
      exact Ev.sub [1, 2, 3, 0] rfl k
    · have k := k.1 c
      refine Ev.iload_n 3 (am_dt kX0_leave 15 rfl) rfl rfl ?_
      refine Ev.istore (lv' := [(4, .int x3), (0, .ref a0), (1, .int x1), (2, .ref a2), (3, .int x3)]) (am_dt kX0_leave 16 rfl) (by decide) rfl ?_
      exact Ev.sub [1, 2, 3, 0] rfl k
set_option maxRecDepth 20000 in
set_option maxHeartbeats 2000000 in
theorem bX0_leave_30 {w : am_W} {d : Nat} {h : am_H} {Q : Option Value → am_H → Prop} {a0 : Nat} {x1 : Int32} {a2 : Nat} {x4 : Int32}  (k : (am_L 0 a0 h) ∧ ((x4 ≤ (hI h a0 1) → (EvM w mX9_set d [.ref (a0 + 1), .int (hI h a0 1), .int x1] h (fun r3 h2 => r3 = none ∧ ((am_L 0 a0 h2) ∧ (EvM w mX0_leaveFirst d [.ref a0, .ref a2] h2 (fun r6 h5 => r6 = none ∧ (Q none h5))))))) ∧ (¬ x4 ≤ (hI h a0 1) → (EvM w mX9_get d [.ref (a0 + 1), .int (x4 - 1)] h (fun r8 h7 => ∃ v9 : Int32, r8 = some (.int v9) ∧ (EvM w mX9_set d [.ref (a0 + 1), .int x4, .int v9] h7 (fun r11 h10 => r11 = none ∧ (Ev w (am_Z w) mX0_leave (d + 1) 30 [(0, .ref a0), (1, .int x1), (2, .ref a2), (4, .int (x4 + (-1)))] [] h10 Q)))))))) : Ev w (am_Z w) mX0_leave (d + 1) 30 [(0, .ref a0), (1, .int x1), (2, .ref a2), (4, .int x4)] [] h Q := by
  refine Ev.iload 3 (am_dt kX0_leave 17 rfl) rfl ?_
  refine Ev.aload_n 0 (am_dt kX0_leave 18 rfl) rfl rfl ?_
  obtain ⟨f1, k⟩ := k
  refine Ev.getI (ci := 0) (k := 1) (am_dt kX0_leave 19 rfl) (by decide) (by decide) rfl wd_10 f1.1 ?_
  refine Ev.icmp_le (tgt := 65) (am_dt kX0_leave 20 rfl) (by decide) (fun c => ?_) (fun c => ?_)
  · have k := k.1 c
    refine Ev.aload_n 0 (am_dt kX0_leave 33 rfl) rfl rfl ?_
    refine Ev.getRe (ci := 0) (k := 0) (r := a0 + 1) (am_dt kX0_leave 34 rfl) (by decide) (by decide) rfl wd_8 f1.1 (am_L.r f1 0 rfl) (by omega) ?_
    refine Ev.aload_n 0 (am_dt kX0_leave 35 rfl) rfl rfl ?_
    refine Ev.getI (ci := 0) (k := 1) (am_dt kX0_leave 36 rfl) (by decide) (by decide) rfl wd_10 f1.1 ?_
    refine Ev.iload_n 1 (am_dt kX0_leave 37 rfl) rfl rfl ?_
    refine Ev.callSN (v := mX9_set) (As := [.ref (a0 + 1), .int (hI h a0 1), .int x1]) (st := []) okX9_set wd_16 wd_15 (am_dt kX0_leave 38 rfl) rfl rfl (Nat.le_of_ble_eq_true rfl) (Nat.le_of_ble_eq_true rfl) ?_
    refine EvM.mono k (fun r3 h2 k => ?_)
    obtain ⟨rfl, k⟩ := k
    show Ev w _ _ _ 77 _ [] _ _
    refine Ev.aload_n 0 (am_dt kX0_leave 39 rfl) rfl rfl ?_
    refine Ev.aload_n 2 (am_dt kX0_leave 40 rfl) rfl rfl ?_
    obtain ⟨f4, k⟩ := k
    refine Ev.callV (ci := 0) (v := mX0_leaveFirst) (As := [.ref a2]) (st := []) okX0_leaveFirst wd_21 wd_22 wd_23 (am_dt kX0_leave 41 rfl) (by decide) rfl rfl (Nat.le_of_ble_eq_true rfl) (Nat.le_of_ble_eq_true rfl) f4.1 ?_
    refine EvM.mono k (fun r6 h5 k => ?_)
    obtain ⟨rfl, k⟩ := k
    show Ev w _ _ _ 82 _ [] _ _
    exact Ev.vret (am_dt kX0_leave 42 rfl) rfl k
  · have k := k.2 c
    refine Ev.aload_n 0 (am_dt kX0_leave 21 rfl) rfl rfl ?_
    refine Ev.getRe (ci := 0) (k := 0) (r := a0 + 1) (am_dt kX0_leave 22 rfl) (by decide) (by decide) rfl wd_8 f1.1 (am_L.r f1 0 rfl) (by omega) ?_
    refine Ev.iload 3 (am_dt kX0_leave 23 rfl) rfl ?_
    refine Ev.aload_n 0 (am_dt kX0_leave 24 rfl) rfl rfl ?_
    refine Ev.getRe (ci := 0) (k := 0) (r := a0 + 1) (am_dt kX0_leave 25 rfl) (by decide) (by decide) rfl wd_8 f1.1 (am_L.r f1 0 rfl) (by omega) ?_
    refine Ev.iload 3 (am_dt kX0_leave 26 rfl) rfl ?_
    refine Ev.iconst (v := 1) (am_dt kX0_leave 27 rfl) (by decide) ?_
    refine Ev.isub (am_dt kX0_leave 28 rfl) ?_
    refine Ev.callSN (v := mX9_get) (As := [.ref (a0 + 1), .int (x4 - 1)]) (st := [.int x4, .ref (a0 + 1)]) okX9_get wd_19 wd_18 (am_dt kX0_leave 29 rfl) rfl rfl (Nat.le_of_ble_eq_true rfl) (Nat.le_of_ble_eq_true rfl) ?_
    refine EvM.mono k (fun r8 h7 k => ?_)
    obtain ⟨v9, rfl, k⟩ := k
    show Ev w _ _ _ 56 _ [.int v9, .int x4, .ref (a0 + 1)] _ _
    refine Ev.callSN (v := mX9_set) (As := [.ref (a0 + 1), .int x4, .int v9]) (st := []) okX9_set wd_16 wd_15 (am_dt kX0_leave 30 rfl) rfl rfl (Nat.le_of_ble_eq_true rfl) (Nat.le_of_ble_eq_true rfl) ?_
    refine EvM.mono k (fun r11 h10 k => ?_)
    obtain ⟨rfl, k⟩ := k
    show Ev w _ _ _ 59 _ [] _ _
    refine Ev.iinc (v := x4 + (-1)) (lv' := [(4, .int (x4 + (-1))), (0, .ref a0), (1, .int x1), (2, .ref a2)]) 3 (am_dt kX0_leave 31 rfl) rfl rfl (by decide) rfl ?_
    refine Ev.goto (tgt := 30) (am_dt kX0_leave 32 rfl) (by decide) ?_
    exact Ev.sub [1, 2, 3, 0] rfl k
set_option maxRecDepth 20000 in
set_option maxHeartbeats 2000000 in
theorem bX0_size_0 {w : am_W} {d : Nat} {h : am_H} {Q : Option Value → am_H → Prop} {a0 : Nat}  (k : (am_L 0 a0 h) ∧ (Q (some (.int (((hI h a0 2) - (hI h a0 1)) + (hI h a0 5)))) h)) : EvM w mX0_size d [.ref a0] h Q := by
  show Ev w (am_Z w) mX0_size d 0 [(0, .ref a0)] [] h Q
  refine Ev.aload_n 0 (am_dt kX0_size 0 rfl) rfl rfl ?_
  obtain ⟨f1, k⟩ := k
  refine Ev.getI (ci := 0) (k := 2) (am_dt kX0_size 1 rfl) (by decide) (by decide) rfl wd_11 f1.1 ?_
  refine Ev.aload_n 0 (am_dt kX0_size 2 rfl) rfl rfl ?_
  refine Ev.getI (ci := 0) (k := 1) (am_dt kX0_size 3 rfl) (by decide) (by decide) rfl wd_10 f1.1 ?_
  refine Ev.isub (am_dt kX0_size 4 rfl) ?_
  refine Ev.aload_n 0 (am_dt kX0_size 5 rfl) rfl rfl ?_
  refine Ev.getI (ci := 0) (k := 5) (am_dt kX0_size 6 rfl) (by decide) (by decide) rfl wd_14 f1.1 ?_
  refine Ev.iadd (am_dt kX0_size 7 rfl) ?_
  exact Ev.iret .int (am_dt kX0_size 8 rfl) rfl rfl k
set_option maxRecDepth 20000 in
set_option maxHeartbeats 2000000 in
theorem bX0_countWithGuests_0 {w : am_W} {d : Nat} {h : am_H} {Q : Option Value → am_H → Prop} {a0 : Nat}  (k : (am_L 0 a0 h) ∧ (Q (some (.int ((hI h a0 3) + ((hI h a0 5) * 2)))) h)) : EvM w mX0_countWithGuests d [.ref a0] h Q := by
  show Ev w (am_Z w) mX0_countWithGuests d 0 [(0, .ref a0)] [] h Q
  refine Ev.aload_n 0 (am_dt kX0_countWithGuests 0 rfl) rfl rfl ?_
  obtain ⟨f1, k⟩ := k
  refine Ev.getI (ci := 0) (k := 3) (am_dt kX0_countWithGuests 1 rfl) (by decide) (by decide) rfl wd_12 f1.1 ?_
  refine Ev.aload_n 0 (am_dt kX0_countWithGuests 2 rfl) rfl rfl ?_
  refine Ev.getI (ci := 0) (k := 5) (am_dt kX0_countWithGuests 3 rfl) (by decide) (by decide) rfl wd_14 f1.1 ?_
  refine Ev.iconst (v := 2) (am_dt kX0_countWithGuests 4 rfl) (by decide) ?_
  refine Ev.imul (am_dt kX0_countWithGuests 5 rfl) ?_
  refine Ev.iadd (am_dt kX0_countWithGuests 6 rfl) ?_
  exact Ev.iret .int (am_dt kX0_countWithGuests 7 rfl) rfl rfl k
set_option maxRecDepth 20000 in
set_option maxHeartbeats 2000000 in
theorem bX0_loadWithGuests_0 {w : am_W} {d : Nat} {h : am_H} {Q : Option Value → am_H → Prop} {a0 : Nat}  (k : (am_L 0 a0 h) ∧ (Q (some (.int ((hI h a0 4) + ((hI h a0 5) * 70)))) h)) : EvM w mX0_loadWithGuests d [.ref a0] h Q := by
  show Ev w (am_Z w) mX0_loadWithGuests d 0 [(0, .ref a0)] [] h Q
  refine Ev.aload_n 0 (am_dt kX0_loadWithGuests 0 rfl) rfl rfl ?_
  obtain ⟨f1, k⟩ := k
  refine Ev.getI (ci := 0) (k := 4) (am_dt kX0_loadWithGuests 1 rfl) (by decide) (by decide) rfl wd_13 f1.1 ?_
  refine Ev.aload_n 0 (am_dt kX0_loadWithGuests 2 rfl) rfl rfl ?_
  refine Ev.getI (ci := 0) (k := 5) (am_dt kX0_loadWithGuests 3 rfl) (by decide) (by decide) rfl wd_14 f1.1 ?_
  refine Ev.bipush (v := 70) (am_dt kX0_loadWithGuests 4 rfl) (by decide) ?_
  refine Ev.imul (am_dt kX0_loadWithGuests 5 rfl) ?_
  refine Ev.iadd (am_dt kX0_loadWithGuests 6 rfl) ?_
  exact Ev.iret .int (am_dt kX0_loadWithGuests 7 rfl) rfl rfl k
