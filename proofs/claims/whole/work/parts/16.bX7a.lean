set_option maxRecDepth 20000 in
set_option maxHeartbeats 2000000 in
theorem bX7_init_0 {w : am_W} {d : Nat} {h : am_H} {Q : Option Value → am_H → Prop} {a0 : Nat} {a1 : Nat}  (k : ∀ h1 : am_H, h1 = nA h 12 30 → ((hK h1 a0 = 7) ∧ ((hZ h ≠ 0) ∧ (∀ h4 : am_H, h4 = sR h1 a0 0 (hZ h) → (∀ h5 : am_H, h5 = sI h4 a0 2 ((-1)) → ((a1 ≠ 0) ∧ (∀ h7 : am_H, h7 = sR h5 a0 1 a1 → (Q none h7)))))))) : EvM w mX7_init (d + 1) [.ref a0, .ref a1] h Q := by
  show Ev w (am_Z w) mX7_init (d + 1) 0 [(0, .ref a0), (1, .ref a1)] [] h Q
  refine Ev.aload_n 0 (am_dt kX7_init 0 rfl) rfl rfl ?_
  refine Ev.objI wd_34 wd_2 wd_3 (am_dt kX7_init 1 rfl) (Nat.le_of_ble_eq_true rfl) ?_
  refine Ev.aload_n 0 (am_dt kX7_init 2 rfl) rfl rfl ?_
  refine Ev.bipush (v := 30) (am_dt kX7_init 3 rfl) (by decide) ?_
  refine Ev.newI' (n := 30) (N := 30) (am_dt kX7_init 4 rfl) wd_9 (by decide) (by decide) (by decide) (fun h1 eh1 => ?_)
  have k := k h1 eh1
  obtain ⟨f2, k⟩ := k
  obtain ⟨f3, k⟩ := k
  refine Ev.putRF' (ci := 7) (k := 0) (am_dt kX7_init 5 rfl) (by decide) (by decide) wd_35 rfl rfl rfl rfl rfl rfl f3 f2 (fun h4 eh4 => ?_)
  have k := k h4 eh4
  have f2 := kR eh4 f2
  refine Ev.aload_n 0 (am_dt kX7_init 6 rfl) rfl rfl ?_
  refine Ev.iconst (v := (-1)) (am_dt kX7_init 7 rfl) (by decide) ?_
  refine Ev.putI' (ci := 7) (k := 2) (am_dt kX7_init 8 rfl) (by decide) (by decide) wd_36 rfl rfl rfl rfl f2 (fun h5 eh5 => ?_)
  have k := k h5 eh5
  have f2 := kI eh5 f2
  refine Ev.aload_n 0 (am_dt kX7_init 9 rfl) rfl rfl ?_
  refine Ev.aload_n 1 (am_dt kX7_init 10 rfl) rfl rfl ?_
  obtain ⟨f6, k⟩ := k
  refine Ev.putR' (ci := 7) (k := 1) (am_dt kX7_init 11 rfl) (by decide) (by decide) wd_37 rfl rfl rfl rfl f6 f2 (fun h7 eh7 => ?_)
  have k := k h7 eh7
  have f2 := kR eh7 f2
  exact Ev.vret (am_dt kX7_init 12 rfl) rfl k
set_option maxRecDepth 20000 in
set_option maxHeartbeats 2000000 in
theorem bX7_start_0 {w : am_W} {d : Nat} {h : am_H} {Q : Option Value → am_H → Prop} {a0 : Nat} {a1 : Nat}  (k : (am_L 7 a0 h) ∧ ((a1 ≠ 0) ∧ (∀ h3 : am_H, h3 = sR h a0 1 a1 → ((am_L 6 a1 h3) ∧ (((hI h3 a1 13) ≤ 0 → (∀ h5 : am_H, h5 = sI h3 a0 2 ((-1)) → (∀ h6 : am_H, h6 = sI h5 a0 3 0 → (Q none h6)))) ∧ (¬ (hI h3 a1 13) ≤ 0 → (∀ h7 : am_H, h7 = sI h3 a0 2 0 → (∀ h8 : am_H, h8 = sI h7 a0 3 0 → (Q none h8))))))))) : EvM w mX7_start d [.ref a0, .ref a1] h Q := by
  show Ev w (am_Z w) mX7_start d 0 [(0, .ref a0), (1, .ref a1)] [] h Q
  refine Ev.aload_n 0 (am_dt kX7_start 0 rfl) rfl rfl ?_
  refine Ev.aload_n 1 (am_dt kX7_start 1 rfl) rfl rfl ?_
  obtain ⟨f1, k⟩ := k
  obtain ⟨f2, k⟩ := k
  refine Ev.putR' (ci := 7) (k := 1) (am_dt kX7_start 2 rfl) (by decide) (by decide) wd_37 rfl rfl rfl rfl f2 f1.1 (fun h3 eh3 => ?_)
  have k := k h3 eh3
  have f1 := am_LsR eh3 (by decide) f1
  refine Ev.aload_n 0 (am_dt kX7_start 3 rfl) rfl rfl ?_
  refine Ev.aload_n 1 (am_dt kX7_start 4 rfl) rfl rfl ?_
  obtain ⟨f4, k⟩ := k
  refine Ev.getI (ci := 6) (k := 13) (am_dt kX7_start 5 rfl) (by decide) (by decide) rfl wd_38 f4.1 ?_
  refine Ev.if_le (tgt := 17) (am_dt kX7_start 6 rfl) (by decide) (fun c => ?_) (fun c => ?_)
  · have k := k.1 c
    refine Ev.iconst (v := (-1)) (am_dt kX7_start 9 rfl) (by decide) ?_
    refine Ev.putI' (ci := 7) (k := 2) (am_dt kX7_start 10 rfl) (by decide) (by decide) wd_36 rfl rfl rfl rfl f1.1 (fun h5 eh5 => ?_)
    have k := k h5 eh5
    have f1 := am_LsI eh5 f1
    have f4 := am_LsI eh5 f4
    refine Ev.aload_n 0 (am_dt kX7_start 11 rfl) rfl rfl ?_
    refine Ev.iconst (v := 0) (am_dt kX7_start 12 rfl) (by decide) ?_
    refine Ev.putI' (ci := 7) (k := 3) (am_dt kX7_start 13 rfl) (by decide) (by decide) wd_39 rfl rfl rfl rfl f1.1 (fun h6 eh6 => ?_)
    have k := k h6 eh6
    have f1 := am_LsI eh6 f1
    have f4 := am_LsI eh6 f4
    exact Ev.vret (am_dt kX7_start 14 rfl) rfl k
  · have k := k.2 c
    refine Ev.iconst (v := 0) (am_dt kX7_start 7 rfl) (by decide) ?_
    refine Ev.goto (tgt := 18) (am_dt kX7_start 8 rfl) (by decide) ?_
    refine Ev.putI' (ci := 7) (k := 2) (am_dt kX7_start 10 rfl) (by decide) (by decide) wd_36 rfl rfl rfl rfl f1.1 (fun h7 eh7 => ?_)
    have k := k h7 eh7
    have f1 := am_LsI eh7 f1
    have f4 := am_LsI eh7 f4
    refine Ev.aload_n 0 (am_dt kX7_start 11 rfl) rfl rfl ?_
    refine Ev.iconst (v := 0) (am_dt kX7_start 12 rfl) (by decide) ?_
    refine Ev.putI' (ci := 7) (k := 3) (am_dt kX7_start 13 rfl) (by decide) (by decide) wd_39 rfl rfl rfl rfl f1.1 (fun h8 eh8 => ?_)
    have k := k h8 eh8
    have f1 := am_LsI eh8 f1
    have f4 := am_LsI eh8 f4
    exact Ev.vret (am_dt kX7_start 14 rfl) rfl k
set_option maxRecDepth 20000 in
set_option maxHeartbeats 2000000 in
theorem bX7_take_0 {w : am_W} {d : Nat} {h : am_H} {Q : Option Value → am_H → Prop} {a0 : Nat} {a1 : Nat}  (k : (am_L 7 a1 h) ∧ ((hR h a1 1 ≠ 0) ∧ ((am_L 7 a0 h) ∧ (∀ h4 : am_H, h4 = sR h a0 1 (hR h a1 1) → (∀ h5 : am_H, h5 = sI h4 a0 2 (hI h4 a1 2) → (∀ h6 : am_H, h6 = sI h5 a0 3 (hI h5 a1 3) → (Ev w (am_Z w) mX7_take (d + 1) 26 [(0, .ref a0), (1, .ref a1), (2, .int 0)] [] h6 Q))))))) : EvM w mX7_take (d + 1) [.ref a0, .ref a1] h Q := by
  show Ev w (am_Z w) mX7_take (d + 1) 0 [(0, .ref a0), (1, .ref a1)] [] h Q
  refine Ev.aload_n 0 (am_dt kX7_take 0 rfl) rfl rfl ?_
  refine Ev.aload_n 1 (am_dt kX7_take 1 rfl) rfl rfl ?_
  obtain ⟨f1, k⟩ := k
  obtain ⟨f2, k⟩ := k
  refine Ev.getR (ci := 7) (k := 1) (am_dt kX7_take 2 rfl) (by decide) (by decide) rfl wd_37 f1.1 f2 ?_
  obtain ⟨f3, k⟩ := k
  refine Ev.putR' (ci := 7) (k := 1) (am_dt kX7_take 3 rfl) (by decide) (by decide) wd_37 rfl rfl rfl rfl f2 f3.1 (fun h4 eh4 => ?_)
  have k := k h4 eh4
  have f1 := am_LsR eh4 (by decide) f1
  have f3 := am_LsR eh4 (by decide) f3
  refine Ev.aload_n 0 (am_dt kX7_take 4 rfl) rfl rfl ?_
  refine Ev.aload_n 1 (am_dt kX7_take 5 rfl) rfl rfl ?_
  refine Ev.getI (ci := 7) (k := 2) (am_dt kX7_take 6 rfl) (by decide) (by decide) rfl wd_36 f1.1 ?_
  refine Ev.putI' (ci := 7) (k := 2) (am_dt kX7_take 7 rfl) (by decide) (by decide) wd_36 rfl rfl rfl rfl f3.1 (fun h5 eh5 => ?_)
  have k := k h5 eh5
  have f1 := am_LsI eh5 f1
  have f3 := am_LsI eh5 f3
  refine Ev.aload_n 0 (am_dt kX7_take 8 rfl) rfl rfl ?_
  refine Ev.aload_n 1 (am_dt kX7_take 9 rfl) rfl rfl ?_
  refine Ev.getI (ci := 7) (k := 3) (am_dt kX7_take 10 rfl) (by decide) (by decide) rfl wd_39 f1.1 ?_
  refine Ev.putI' (ci := 7) (k := 3) (am_dt kX7_take 11 rfl) (by decide) (by decide) wd_39 rfl rfl rfl rfl f3.1 (fun h6 eh6 => ?_)
  have k := k h6 eh6
  have f1 := am_LsI eh6 f1
  have f3 := am_LsI eh6 f3
  refine Ev.iconst (v := 0) (am_dt kX7_take 12 rfl) (by decide) ?_
  refine Ev.istore_n (lv' := [(2, .int 0), (0, .ref a0), (1, .ref a1)]) (am_dt kX7_take 13 rfl) rfl (by decide) rfl ?_
  exact Ev.sub [1, 2, 0] rfl k
set_option maxRecDepth 20000 in
set_option maxHeartbeats 2000000 in
theorem bX7_take_26 {w : am_W} {d : Nat} {h : am_H} {Q : Option Value → am_H → Prop} {a0 : Nat} {a1 : Nat} {x2 : Int32}  (k : (am_L 7 a0 h) ∧ (((hI h a0 3) ≤ x2 → (Q none h)) ∧ (¬ (hI h a0 3) ≤ x2 → ((am_L 7 a1 h) ∧ (EvM w mX9_get d [.ref (a1 + 1), .int x2] h (fun r4 h3 => ∃ v5 : Int32, r4 = some (.int v5) ∧ (EvM w mX9_set d [.ref (a0 + 1), .int x2, .int v5] h3 (fun r7 h6 => r7 = none ∧ (Ev w (am_Z w) mX7_take (d + 1) 26 [(0, .ref a0), (1, .ref a1), (2, .int (x2 + 1))] [] h6 Q))))))))) : Ev w (am_Z w) mX7_take (d + 1) 26 [(0, .ref a0), (1, .ref a1), (2, .int x2)] [] h Q := by
  refine Ev.iload_n 2 (am_dt kX7_take 14 rfl) rfl rfl ?_
  refine Ev.aload_n 0 (am_dt kX7_take 15 rfl) rfl rfl ?_
  obtain ⟨f1, k⟩ := k
  refine Ev.getI (ci := 7) (k := 3) (am_dt kX7_take 16 rfl) (by decide) (by decide) rfl wd_39 f1.1 ?_
  refine Ev.icmp_ge (tgt := 56) (am_dt kX7_take 17 rfl) (by decide) (fun c => ?_) (fun c => ?_)
  · have k := k.1 c
    exact Ev.vret (am_dt kX7_take 28 rfl) rfl k
  · have k := k.2 c
    refine Ev.aload_n 0 (am_dt kX7_take 18 rfl) rfl rfl ?_
    refine Ev.getRe (ci := 7) (k := 0) (r := a0 + 1) (am_dt kX7_take 19 rfl) (by decide) (by decide) rfl wd_35 f1.1 (am_L.r f1 0 rfl) (by omega) ?_
    refine Ev.iload_n 2 (am_dt kX7_take 20 rfl) rfl rfl ?_
    refine Ev.aload_n 1 (am_dt kX7_take 21 rfl) rfl rfl ?_
    obtain ⟨f2, k⟩ := k
    refine Ev.getRe (ci := 7) (k := 0) (r := a1 + 1) (am_dt kX7_take 22 rfl) (by decide) (by decide) rfl wd_35 f2.1 (am_L.r f2 0 rfl) (by omega) ?_
    refine Ev.iload_n 2 (am_dt kX7_take 23 rfl) rfl rfl ?_
    refine Ev.callSN (v := mX9_get) (As := [.ref (a1 + 1), .int x2]) (st := [.int x2, .ref (a0 + 1)]) okX9_get wd_19 wd_40 (am_dt kX7_take 24 rfl) rfl rfl (Nat.le_of_ble_eq_true rfl) (Nat.le_of_ble_eq_true rfl) ?_
    refine EvM.mono k (fun r4 h3 k => ?_)
    obtain ⟨v5, rfl, k⟩ := k
    show Ev w _ _ _ 47 _ [.int v5, .int x2, .ref (a0 + 1)] _ _
    refine Ev.callSN (v := mX9_set) (As := [.ref (a0 + 1), .int x2, .int v5]) (st := []) okX9_set wd_16 wd_41 (am_dt kX7_take 25 rfl) rfl rfl (Nat.le_of_ble_eq_true rfl) (Nat.le_of_ble_eq_true rfl) ?_
    refine EvM.mono k (fun r7 h6 k => ?_)
    obtain ⟨rfl, k⟩ := k
    show Ev w _ _ _ 50 _ [] _ _
    refine Ev.iinc (v := x2 + 1) (lv' := [(2, .int (x2 + 1)), (0, .ref a0), (1, .ref a1)]) 2 (am_dt kX7_take 26 rfl) rfl rfl (by decide) rfl ?_
    refine Ev.goto (tgt := 26) (am_dt kX7_take 27 rfl) (by decide) ?_
    exact Ev.sub [1, 2, 0] rfl k
set_option maxRecDepth 20000 in
set_option maxHeartbeats 2000000 in
theorem bX7_addTold_0 {w : am_W} {d : Nat} {h : am_H} {Q : Option Value → am_H → Prop} {a0 : Nat} {x1 : Int32}  (k : (am_L 7 a0 h) ∧ (((hI h a0 3) = 0 → (Ev w (am_Z w) mX7_addTold (d + 1) 24 [(0, .ref a0), (1, .int x1)] [.int ((-1))] h Q)) ∧ (¬ (hI h a0 3) = 0 → (EvM w mX9_get d [.ref (a0 + 1), .int ((hI h a0 3) - 1)] h (fun r3 h2 => ∃ v4 : Int32, r3 = some (.int v4) ∧ (Ev w (am_Z w) mX7_addTold (d + 1) 24 [(0, .ref a0), (1, .int x1)] [.int v4] h2 Q)))))) : EvM w mX7_addTold (d + 1) [.ref a0, .int x1] h Q := by
  show Ev w (am_Z w) mX7_addTold (d + 1) 0 [(0, .ref a0), (1, .int x1)] [] h Q
  refine Ev.aload_n 0 (am_dt kX7_addTold 0 rfl) rfl rfl ?_
  obtain ⟨f1, k⟩ := k
  refine Ev.getI (ci := 7) (k := 3) (am_dt kX7_addTold 1 rfl) (by decide) (by decide) rfl wd_39 f1.1 ?_
  refine Ev.if_ne (tgt := 11) (am_dt kX7_addTold 2 rfl) (by decide) (fun c => ?_) (fun c => ?_)
  · have k := k.2 c
    refine Ev.aload_n 0 (am_dt kX7_addTold 5 rfl) rfl rfl ?_
    refine Ev.getRe (ci := 7) (k := 0) (r := a0 + 1) (am_dt kX7_addTold 6 rfl) (by decide) (by decide) rfl wd_35 f1.1 (am_L.r f1 0 rfl) (by omega) ?_
    refine Ev.aload_n 0 (am_dt kX7_addTold 7 rfl) rfl rfl ?_
    refine Ev.getI (ci := 7) (k := 3) (am_dt kX7_addTold 8 rfl) (by decide) (by decide) rfl wd_39 f1.1 ?_
    refine Ev.iconst (v := 1) (am_dt kX7_addTold 9 rfl) (by decide) ?_
    refine Ev.isub (am_dt kX7_addTold 10 rfl) ?_
    refine Ev.callSN (v := mX9_get) (As := [.ref (a0 + 1), .int ((hI h a0 3) - 1)]) (st := []) okX9_get wd_19 wd_40 (am_dt kX7_addTold 11 rfl) rfl rfl (Nat.le_of_ble_eq_true rfl) (Nat.le_of_ble_eq_true rfl) ?_
    refine EvM.mono k (fun r3 h2 k => ?_)
    obtain ⟨v4, rfl, k⟩ := k
    show Ev w _ _ _ 24 _ [.int v4] _ _
    exact k
  · have k := k.1 c
    refine Ev.iconst (v := (-1)) (am_dt kX7_addTold 3 rfl) (by decide) ?_
    refine Ev.goto (tgt := 24) (am_dt kX7_addTold 4 rfl) (by decide) ?_
    exact k
set_option maxRecDepth 20000 in
set_option maxHeartbeats 2000000 in
theorem bX7_addTold_24 {w : am_W} {d : Nat} {h : am_H} {Q : Option Value → am_H → Prop} {a0 : Nat} {x1 : Int32} {s0 : Int32} (k : EvM w mX9_isMinute d [.int x1] h (fun r2 h1 => ∃ v3 : Int32, r2 = some (.int v3) ∧ ((v3 = 0 → (Q (some (.int 0)) h1)) ∧ (¬ v3 = 0 → ((x1 ≤ s0 → (Q (some (.int 0)) h1)) ∧ (¬ x1 ≤ s0 → ((am_L 7 a0 h1) ∧ (((hI h1 a0 3) < 30 → (EvM w mX9_set d [.ref (a0 + 1), .int (hI h1 a0 3), .int x1] h1 (fun r6 h5 => r6 = none ∧ ((am_L 7 a0 h5) ∧ (∀ h8 : am_H, h8 = sI h5 a0 3 ((hI h5 a0 3) + 1) → (Q (some (.int 1)) h8)))))) ∧ (¬ (hI h1 a0 3) < 30 → (Q (some (.int 0)) h1)))))))))) : Ev w (am_Z w) mX7_addTold (d + 1) 24 [(0, .ref a0), (1, .int x1)] [.int s0] h Q := by
  refine Ev.istore_n (lv' := [(2, .int s0), (0, .ref a0), (1, .int x1)]) (am_dt kX7_addTold 12 rfl) rfl (by decide) rfl ?_
  refine Ev.iload_n 2 (am_dt kX7_addTold 13 rfl) rfl rfl ?_
  refine Ev.callSN (v := mX9_isMinute) (As := [.int x1]) (st := []) okX9_isMinute wd_43 wd_42 (am_dt kX7_addTold 14 rfl) rfl rfl (Nat.le_of_ble_eq_true rfl) (Nat.le_of_ble_eq_true rfl) ?_
  refine EvM.mono k (fun r2 h1 k => ?_)
  obtain ⟨v3, rfl, k⟩ := k
  show Ev w _ _ _ 29 _ [.int v3] _ _
  refine Ev.if_eq (tgt := 46) (am_dt kX7_addTold 15 rfl) (by decide) (fun c => ?_) (fun c => ?_)
  · have k := k.1 c
    refine Ev.iconst (v := 0) (am_dt kX7_addTold 23 rfl) (by decide) ?_
    exact Ev.iret .boolean (am_dt kX7_addTold 24 rfl) rfl rfl k
  · have k := k.2 c
    refine Ev.iload_n 2 (am_dt kX7_addTold 16 rfl) rfl rfl ?_
    refine Ev.iload_n 0 (am_dt kX7_addTold 17 rfl) rfl rfl ?_
    refine Ev.icmp_le (tgt := 46) (am_dt kX7_addTold 18 rfl) (by decide) (fun c => ?_) (fun c => ?_)
    · have k := k.1 c
      refine Ev.iconst (v := 0) (am_dt kX7_addTold 23 rfl) (by decide) ?_
      exact Ev.iret .boolean (am_dt kX7_addTold 24 rfl) rfl rfl k
    · have k := k.2 c
      refine Ev.aload_n 1 (am_dt kX7_addTold 19 rfl) rfl rfl ?_
      obtain ⟨f4, k⟩ := k
      refine Ev.getI (ci := 7) (k := 3) (am_dt kX7_addTold 20 rfl) (by decide) (by decide) rfl wd_39 f4.1 ?_
      refine Ev.bipush (v := 30) (am_dt kX7_addTold 21 rfl) (by decide) ?_
      refine Ev.icmp_lt (tgt := 48) (am_dt kX7_addTold 22 rfl) (by decide) (fun c => ?_) (fun c => ?_)
      · have k := k.1 c
        refine Ev.aload_n 1 (am_dt kX7_addTold 25 rfl) rfl rfl ?_
        refine Ev.getRe (ci := 7) (k := 0) (r := a0 + 1) (am_dt kX7_addTold 26 rfl) (by decide) (by decide) rfl wd_35 f4.1 (am_L.r f4 0 rfl) (by omega) ?_
        refine Ev.aload_n 1 (am_dt kX7_addTold 27 rfl) rfl rfl ?_
        refine Ev.getI (ci := 7) (k := 3) (am_dt kX7_addTold 28 rfl) (by decide) (by decide) rfl wd_39 f4.1 ?_
        refine Ev.iload_n 2 (am_dt kX7_addTold 29 rfl) rfl rfl ?_
        refine Ev.callSN (v := mX9_set) (As := [.ref (a0 + 1), .int (hI h1 a0 3), .int x1]) (st := []) okX9_set wd_16 wd_41 (am_dt kX7_addTold 30 rfl) rfl rfl (Nat.le_of_ble_eq_true rfl) (Nat.le_of_ble_eq_true rfl) ?_
        refine EvM.mono k (fun r6 h5 k => ?_)
        obtain ⟨rfl, k⟩ := k
        show Ev w _ _ _ 60 _ [] _ _
        refine Ev.aload_n 1 (am_dt kX7_addTold 31 rfl) rfl rfl ?_
        refine Ev.dup (am_dt kX7_addTold 32 rfl) rfl ?_
        obtain ⟨f7, k⟩ := k
        refine Ev.getI (ci := 7) (k := 3) (am_dt kX7_addTold 33 rfl) (by decide) (by decide) rfl wd_39 f7.1 ?_
        refine Ev.iconst (v := 1) (am_dt kX7_addTold 34 rfl) (by decide) ?_
        refine Ev.iadd (am_dt kX7_addTold 35 rfl) ?_
        refine Ev.putI' (ci := 7) (k := 3) (am_dt kX7_addTold 36 rfl) (by decide) (by decide) wd_39 rfl rfl rfl rfl f7.1 (fun h8 eh8 => ?_)
        have k := k h8 eh8
        have f7 := am_LsI eh8 f7
        refine Ev.iconst (v := 1) (am_dt kX7_addTold 37 rfl) (by decide) ?_
        exact Ev.iret .boolean (am_dt kX7_addTold 38 rfl) rfl rfl k
      · have k := k.2 c
        refine Ev.iconst (v := 0) (am_dt kX7_addTold 23 rfl) (by decide) ?_
        exact Ev.iret .boolean (am_dt kX7_addTold 24 rfl) rfl rfl k
set_option maxRecDepth 20000 in
set_option maxHeartbeats 2000000 in
theorem bX7_isTold_0 {w : am_W} {d : Nat} {h : am_H} {Q : Option Value → am_H → Prop} {a0 : Nat} {x1 : Int32}  (k : Ev w (am_Z w) mX7_isTold (d + 1) 2 [(0, .ref a0), (1, .int x1), (2, .int 0)] [] h Q) : EvM w mX7_isTold (d + 1) [.ref a0, .int x1] h Q := by
  show Ev w (am_Z w) mX7_isTold (d + 1) 0 [(0, .ref a0), (1, .int x1)] [] h Q
  refine Ev.iconst (v := 0) (am_dt kX7_isTold 0 rfl) (by decide) ?_
  refine Ev.istore_n (lv' := [(2, .int 0), (0, .ref a0), (1, .int x1)]) (am_dt kX7_isTold 1 rfl) rfl (by decide) rfl ?_
  exact Ev.sub [1, 2, 0] rfl k
set_option maxRecDepth 20000 in
set_option maxHeartbeats 2000000 in
theorem bX7_isTold_2 {w : am_W} {d : Nat} {h : am_H} {Q : Option Value → am_H → Prop} {a0 : Nat} {x1 : Int32} {x2 : Int32}  (k : (am_L 7 a0 h) ∧ (((hI h a0 3) ≤ x2 → (Q (some (.int 0)) h)) ∧ (¬ (hI h a0 3) ≤ x2 → (EvM w mX9_get d [.ref (a0 + 1), .int x2] h (fun r3 h2 => ∃ v4 : Int32, r3 = some (.int v4) ∧ ((v4 = x1 → (Q (some (.int 1)) h2)) ∧ (¬ v4 = x1 → (Ev w (am_Z w) mX7_isTold (d + 1) 2 [(0, .ref a0), (1, .int x1), (2, .int (x2 + 1))] [] h2 Q)))))))) : Ev w (am_Z w) mX7_isTold (d + 1) 2 [(0, .ref a0), (1, .int x1), (2, .int x2)] [] h Q := by
  refine Ev.iload_n 2 (am_dt kX7_isTold 2 rfl) rfl rfl ?_
  refine Ev.aload_n 0 (am_dt kX7_isTold 3 rfl) rfl rfl ?_
  obtain ⟨f1, k⟩ := k
  refine Ev.getI (ci := 7) (k := 3) (am_dt kX7_isTold 4 rfl) (by decide) (by decide) rfl wd_39 f1.1 ?_
  refine Ev.icmp_ge (tgt := 30) (am_dt kX7_isTold 5 rfl) (by decide) (fun c => ?_) (fun c => ?_)
  · have k := k.1 c
    refine Ev.iconst (v := 0) (am_dt kX7_isTold 16 rfl) (by decide) ?_
    exact Ev.iret .boolean (am_dt kX7_isTold 17 rfl) rfl rfl k
  · have k := k.2 c
    refine Ev.aload_n 0 (am_dt kX7_isTold 6 rfl) rfl rfl ?_
    refine Ev.getRe (ci := 7) (k := 0) (r := a0 + 1) (am_dt kX7_isTold 7 rfl) (by decide) (by decide) rfl wd_35 f1.1 (am_L.r f1 0 rfl) (by omega) ?_
    refine Ev.iload_n 2 (am_dt kX7_isTold 8 rfl) rfl rfl ?_
    refine Ev.callSN (v := mX9_get) (As := [.ref (a0 + 1), .int x2]) (st := []) okX9_get wd_19 wd_40 (am_dt kX7_isTold 9 rfl) rfl rfl (Nat.le_of_ble_eq_true rfl) (Nat.le_of_ble_eq_true rfl) ?_
    refine EvM.mono k (fun r3 h2 k => ?_)
    obtain ⟨v4, rfl, k⟩ := k
    show Ev w _ _ _ 18 _ [.int v4] _ _
    refine Ev.iload_n 1 (am_dt kX7_isTold 10 rfl) rfl rfl ?_
    refine Ev.icmp_ne (tgt := 24) (am_dt kX7_isTold 11 rfl) (by decide) (fun c => ?_) (fun c => ?_)
    · have k := k.2 c
      refine Ev.iinc (v := x2 + 1) (lv' := [(2, .int (x2 + 1)), (0, .ref a0), (1, .int x1)]) 2 (am_dt kX7_isTold 14 rfl) rfl rfl (by decide) rfl ?_
      refine Ev.goto (tgt := 2) (am_dt kX7_isTold 15 rfl) (by decide) ?_
      exact Ev.sub [1, 2, 0] rfl k
    · have k := k.1 c
      refine Ev.iconst (v := 1) (am_dt kX7_isTold 12 rfl) (by decide) ?_
      exact Ev.iret .boolean (am_dt kX7_isTold 13 rfl) rfl rfl k
