set_option maxRecDepth 20000 in
set_option maxHeartbeats 2000000 in
theorem bX10_best_0 {w : am_W} {d : Nat} {h : am_H} {Q : Option Value → am_H → Prop} {a0 : Nat}  (k : (hK h a0 = 10) ∧ (∀ h2 : am_H, h2 = sI h a0 0 0 → ((hR h2 a0 10 ≠ 0) ∧ ((hK h2 (hR h2 a0 10) = 12) ∧ ((vp_in 8 (hN h2 (hR h2 a0 10))) ∧ (Ev w (am_Z w) mX10_best (d + 1) 20 [(0, .ref a0), (1, .int (hI h2 (hR h2 a0 10) (Int32.toNatClampNeg 8))), (2, .int ((-1))), (3, .int 0), (4, .int 0)] [] h2 Q)))))) : EvM w mX10_best (d + 1) [.ref a0] h Q := by
  show Ev w (am_Z w) mX10_best (d + 1) 0 [(0, .ref a0)] [] h Q
  refine Ev.aload_n 0 (am_dt kX10_best 0 rfl) rfl rfl ?_
  refine Ev.iconst (v := 0) (am_dt kX10_best 1 rfl) (by decide) ?_
  obtain ⟨f1, k⟩ := k
  refine Ev.putI' (ci := 10) (k := 0) (am_dt kX10_best 2 rfl) (by decide) (by decide) wd_583 rfl rfl rfl rfl f1 (fun h2 eh2 => ?_)
  have k := k h2 eh2
  have f1 := kI eh2 f1
  refine Ev.aload_n 0 (am_dt kX10_best 3 rfl) rfl rfl ?_
  obtain ⟨f3, k⟩ := k
  refine Ev.getR (ci := 10) (k := 10) (am_dt kX10_best 4 rfl) (by decide) (by decide) rfl wd_543 f1 f3 ?_
  refine Ev.bipush (v := 8) (am_dt kX10_best 5 rfl) (by decide) ?_
  obtain ⟨f4, k⟩ := k
  obtain ⟨f5, k⟩ := k
  refine Ev.iald (am_dt kX10_best 6 rfl) f4 f5 ?_
  refine Ev.istore_n (lv' := [(1, .int (hI h2 (hR h2 a0 10) (Int32.toNatClampNeg 8))), (0, .ref a0)]) (am_dt kX10_best 7 rfl) rfl (by decide) rfl ?_
  refine Ev.iconst (v := (-1)) (am_dt kX10_best 8 rfl) (by decide) ?_
  refine Ev.istore_n (lv' := [(2, .int ((-1))), (1, .int (hI h2 (hR h2 a0 10) (Int32.toNatClampNeg 8))), (0, .ref a0)]) (am_dt kX10_best 9 rfl) rfl (by decide) rfl ?_
  refine Ev.iconst (v := 0) (am_dt kX10_best 10 rfl) (by decide) ?_
  refine Ev.istore_n (lv' := [(3, .int 0), (2, .int ((-1))), (1, .int (hI h2 (hR h2 a0 10) (Int32.toNatClampNeg 8))), (0, .ref a0)]) (am_dt kX10_best 11 rfl) rfl (by decide) rfl ?_
  refine Ev.iconst (v := 0) (am_dt kX10_best 12 rfl) (by decide) ?_
  refine Ev.istore (lv' := [(4, .int 0), (3, .int 0), (2, .int ((-1))), (1, .int (hI h2 (hR h2 a0 10) (Int32.toNatClampNeg 8))), (0, .ref a0)]) (am_dt kX10_best 13 rfl) (by decide) rfl ?_
  exact Ev.sub [4, 3, 2, 1, 0] rfl k
set_option maxRecDepth 20000 in
set_option maxHeartbeats 2000000 in
theorem bX10_best_20 {w : am_W} {d : Nat} {h : am_H} {Q : Option Value → am_H → Prop} {a0 : Nat} {x1 : Int32} {x2 : Int32} {x3 : Int32} {x4 : Int32}  (k : (hK h a0 = 10) ∧ ((hR h a0 10 ≠ 0) ∧ ((hK h (hR h a0 10) = 12) ∧ ((vp_in 6 (hN h (hR h a0 10))) ∧ (((hI h (hR h a0 10) (Int32.toNatClampNeg 6)) ≤ x4 → ((vp_in 8 (hN h (hR h a0 10))) ∧ (∀ h6 : am_H, h6 = sI h (hR h a0 10) (Int32.toNatClampNeg 8) x1 → (Q (some (.int x2)) h6)))) ∧ (¬ (hI h (hR h a0 10) (Int32.toNatClampNeg 6)) ≤ x4 → ((vp_in 8 (hN h (hR h a0 10))) ∧ (∀ h8 : am_H, h8 = sI h (hR h a0 10) (Int32.toNatClampNeg 8) x4 → (EvM w mX10_day d [.ref a0, .int ((-1))] h8 (fun r10 h9 => r10 = none ∧ ((hK h9 a0 = 10) ∧ (EvM w mX10_costAll d [.ref a0, .int ((-1))] h9 (fun r13 h12 => ∃ v14 : Int32, r13 = some (.int v14) ∧ ((x2 < 0 → (Ev w (am_Z w) mX10_best (d + 1) 20 [(0, .ref a0), (1, .int x1), (2, .int x4), (3, .int v14), (4, .int (x4 + 1))] [] h12 Q)) ∧ (¬ x2 < 0 → ((v14 < x3 → (Ev w (am_Z w) mX10_best (d + 1) 20 [(0, .ref a0), (1, .int x1), (2, .int x4), (3, .int v14), (4, .int (x4 + 1))] [] h12 Q)) ∧ (¬ v14 < x3 → (Ev w (am_Z w) mX10_best (d + 1) 20 [(0, .ref a0), (1, .int x1), (2, .int x2), (3, .int x3), (4, .int (x4 + 1))] [] h12 Q)))))))))))))))))) : Ev w (am_Z w) mX10_best (d + 1) 20 [(0, .ref a0), (1, .int x1), (2, .int x2), (3, .int x3), (4, .int x4)] [] h Q := by
  refine Ev.iload 4 (am_dt kX10_best 14 rfl) rfl ?_
  refine Ev.aload_n 0 (am_dt kX10_best 15 rfl) rfl rfl ?_
  obtain ⟨f1, k⟩ := k
  obtain ⟨f2, k⟩ := k
  refine Ev.getR (ci := 10) (k := 10) (am_dt kX10_best 16 rfl) (by decide) (by decide) rfl wd_543 f1 f2 ?_
  refine Ev.bipush (v := 6) (am_dt kX10_best 17 rfl) (by decide) ?_
  obtain ⟨f3, k⟩ := k
  obtain ⟨f4, k⟩ := k
  refine Ev.iald (am_dt kX10_best 18 rfl) f3 f4 ?_
  refine Ev.icmp_ge (tgt := 78) (am_dt kX10_best 19 rfl) (by decide) (fun c => ?_) (fun c => ?_)
  · have k := k.1 c
    refine Ev.aload_n 0 (am_dt kX10_best 44 rfl) rfl rfl ?_
    refine Ev.getR (ci := 10) (k := 10) (am_dt kX10_best 45 rfl) (by decide) (by decide) rfl wd_543 f1 f2 ?_
    refine Ev.bipush (v := 8) (am_dt kX10_best 46 rfl) (by decide) ?_
    refine Ev.iload_n 1 (am_dt kX10_best 47 rfl) rfl rfl ?_
    obtain ⟨f5, k⟩ := k
    refine Ev.iast' (am_dt kX10_best 48 rfl) f3 f5 (fun h6 eh6 => ?_)
    have k := k h6 eh6
    have f1 := kI eh6 f1
    have f3 := kI eh6 f3
    refine Ev.iload_n 2 (am_dt kX10_best 49 rfl) rfl rfl ?_
    exact Ev.iret .int (am_dt kX10_best 50 rfl) rfl rfl k
  · have k := k.2 c
    refine Ev.aload_n 0 (am_dt kX10_best 20 rfl) rfl rfl ?_
    refine Ev.getR (ci := 10) (k := 10) (am_dt kX10_best 21 rfl) (by decide) (by decide) rfl wd_543 f1 f2 ?_
    refine Ev.bipush (v := 8) (am_dt kX10_best 22 rfl) (by decide) ?_
    refine Ev.iload 4 (am_dt kX10_best 23 rfl) rfl ?_
    obtain ⟨f7, k⟩ := k
    refine Ev.iast' (am_dt kX10_best 24 rfl) f3 f7 (fun h8 eh8 => ?_)
    have k := k h8 eh8
    have f1 := kI eh8 f1
    have f3 := kI eh8 f3
    refine Ev.aload_n 0 (am_dt kX10_best 25 rfl) rfl rfl ?_
    refine Ev.iconst (v := (-1)) (am_dt kX10_best 26 rfl) (by decide) ?_
    refine Ev.callV (ci := 10) (v := mX10_day) (As := [.int ((-1))]) (st := []) okX10_day wd_742 wd_743 wd_744 (am_dt kX10_best 27 rfl) (by decide) rfl rfl (Nat.le_of_ble_eq_true rfl) (Nat.le_of_ble_eq_true rfl) f1 ?_
    refine EvM.mono k (fun r10 h9 k => ?_)
    obtain ⟨rfl, k⟩ := k
    show Ev w _ _ _ 46 _ [] _ _
    refine Ev.aload_n 0 (am_dt kX10_best 28 rfl) rfl rfl ?_
    refine Ev.iconst (v := (-1)) (am_dt kX10_best 29 rfl) (by decide) ?_
    obtain ⟨f11, k⟩ := k
    refine Ev.callV (ci := 10) (v := mX10_costAll) (As := [.int ((-1))]) (st := []) okX10_costAll wd_745 wd_746 wd_747 (am_dt kX10_best 30 rfl) (by decide) rfl rfl (Nat.le_of_ble_eq_true rfl) (Nat.le_of_ble_eq_true rfl) f11 ?_
    refine EvM.mono k (fun r13 h12 k => ?_)
    obtain ⟨v14, rfl, k⟩ := k
    show Ev w _ _ _ 51 _ [.int v14] _ _
    refine Ev.istore (lv' := [(5, .int v14), (0, .ref a0), (1, .int x1), (2, .int x2), (3, .int x3), (4, .int x4)]) (am_dt kX10_best 31 rfl) (by decide) rfl ?_
    refine Ev.iload_n 3 (am_dt kX10_best 32 rfl) rfl rfl ?_
    refine Ev.if_lt (tgt := 66) (am_dt kX10_best 33 rfl) (by decide) (fun c => ?_) (fun c => ?_)
    · have k := k.1 c
      refine Ev.iload 5 (am_dt kX10_best 38 rfl) rfl ?_
      refine Ev.istore_n (lv' := [(2, .int x4), (5, .int v14), (0, .ref a0), (1, .int x1), (3, .int x3), (4, .int x4)]) (am_dt kX10_best 39 rfl) rfl (by decide) rfl ?_
      refine Ev.iload 1 (am_dt kX10_best 40 rfl) rfl ?_
      refine Ev.istore_n (lv' := [(3, .int v14), (2, .int x4), (5, .int v14), (0, .ref a0), (1, .int x1), (4, .int x4)]) (am_dt kX10_best 41 rfl) rfl (by decide) rfl ?_
      refine Ev.iinc (v := x4 + 1) (lv' := [(4, .int (x4 + 1)), (3, .int v14), (2, .int x4), (5, .int v14), (0, .ref a0), (1, .int x1)]) 5 (am_dt kX10_best 42 rfl) rfl rfl (by decide) rfl ?_
      refine Ev.goto (tgt := 20) (am_dt kX10_best 43 rfl) (by decide) ?_
      exact Ev.sub [4, 5, 2, 1, 0] rfl k
    · have k := k.2 c
      refine Ev.iload 0 (am_dt kX10_best 34 rfl) rfl ?_
      refine Ev.iload_n 4 (am_dt kX10_best 35 rfl) rfl rfl ?_
      refine Ev.icmp_lt (tgt := 66) (am_dt kX10_best 36 rfl) (by decide) (fun c => ?_) (fun c => ?_)
      · have k := k.1 c
        refine Ev.iload 5 (am_dt kX10_best 38 rfl) rfl ?_
        refine Ev.istore_n (lv' := [(2, .int x4), (5, .int v14), (0, .ref a0), (1, .int x1), (3, .int x3), (4, .int x4)]) (am_dt kX10_best 39 rfl) rfl (by decide) rfl ?_
        refine Ev.iload 1 (am_dt kX10_best 40 rfl) rfl ?_
        refine Ev.istore_n (lv' := [(3, .int v14), (2, .int x4), (5, .int v14), (0, .ref a0), (1, .int x1), (4, .int x4)]) (am_dt kX10_best 41 rfl) rfl (by decide) rfl ?_
        refine Ev.iinc (v := x4 + 1) (lv' := [(4, .int (x4 + 1)), (3, .int v14), (2, .int x4), (5, .int v14), (0, .ref a0), (1, .int x1)]) 5 (am_dt kX10_best 42 rfl) rfl rfl (by decide) rfl ?_
        refine Ev.goto (tgt := 20) (am_dt kX10_best 43 rfl) (by decide) ?_
        exact Ev.sub [4, 5, 2, 1, 0] rfl k
      · have k := k.2 c
        refine Ev.goto (tgt := 72) (am_dt kX10_best 37 rfl) (by decide) ?_
        refine Ev.iinc (v := x4 + 1) (lv' := [(4, .int (x4 + 1)), (5, .int v14), (0, .ref a0), (1, .int x1), (2, .int x2), (3, .int x3)]) 5 (am_dt kX10_best 42 rfl) rfl rfl (by decide) rfl ?_
        refine Ev.goto (tgt := 20) (am_dt kX10_best 43 rfl) (by decide) ?_
        exact Ev.sub [2, 3, 4, 5, 0] rfl k
set_option maxRecDepth 20000 in
set_option maxHeartbeats 2000000 in
theorem bX10_mark_0 {w : am_W} {d : Nat} {h : am_H} {Q : Option Value → am_H → Prop} {a0 : Nat} {x1 : Int32} {x2 : Int32}  (k : (hK h a0 = 10) ∧ (∀ h2 : am_H, h2 = sI h a0 0 0 → (EvM w mX10_within d [.int x1, .int 0, .int 3] h2 (fun r4 h3 => ∃ v5 : Int32, r4 = some (.int v5) ∧ ((v5 = 0 → (Q (some (.int 0)) h3)) ∧ (¬ v5 = 0 → ((x2 = 0 → (Ev w (am_Z w) mX10_mark (d + 1) 29 [(0, .ref a0), (1, .int x1), (2, .int x2)] [] h3 Q)) ∧ (¬ x2 = 0 → ((hK h3 a0 = 10) ∧ ((hR h3 a0 54 ≠ 0) ∧ ((hK h3 (hR h3 a0 54) = 14) ∧ ((vp_in x1 (hN h3 (hR h3 a0 54))) ∧ (((hI h3 (hR h3 a0 54) (Int32.toNatClampNeg x1)) = 0 → (Q (some (.int 0)) h3)) ∧ (¬ (hI h3 (hR h3 a0 54) (Int32.toNatClampNeg x1)) = 0 → (Ev w (am_Z w) mX10_mark (d + 1) 29 [(0, .ref a0), (1, .int x1), (2, .int x2)] [] h3 Q))))))))))))))) : EvM w mX10_mark (d + 1) [.ref a0, .int x1, .int x2] h Q := by
  show Ev w (am_Z w) mX10_mark (d + 1) 0 [(0, .ref a0), (1, .int x1), (2, .int x2)] [] h Q
  refine Ev.aload_n 0 (am_dt kX10_mark 0 rfl) rfl rfl ?_
  refine Ev.iconst (v := 0) (am_dt kX10_mark 1 rfl) (by decide) ?_
  obtain ⟨f1, k⟩ := k
  refine Ev.putI' (ci := 10) (k := 0) (am_dt kX10_mark 2 rfl) (by decide) (by decide) wd_583 rfl rfl rfl rfl f1 (fun h2 eh2 => ?_)
  have k := k h2 eh2
  have f1 := kI eh2 f1
  refine Ev.iload_n 1 (am_dt kX10_mark 3 rfl) rfl rfl ?_
  refine Ev.iconst (v := 0) (am_dt kX10_mark 4 rfl) (by decide) ?_
  refine Ev.iconst (v := 3) (am_dt kX10_mark 5 rfl) (by decide) ?_
  refine Ev.callS (v := mX10_within) (As := [.int x1, .int 0, .int 3]) (st := []) okX10_within wd_653 wd_652 (am_dt kX10_mark 6 rfl) rfl rfl (Nat.le_of_ble_eq_true rfl) (Nat.le_of_ble_eq_true rfl) ?_
  refine EvM.mono k (fun r4 h3 k => ?_)
  obtain ⟨v5, rfl, k⟩ := k
  show Ev w _ _ _ 11 _ [.int v5] _ _
  refine Ev.if_eq (tgt := 27) (am_dt kX10_mark 7 rfl) (by decide) (fun c => ?_) (fun c => ?_)
  · have k := k.1 c
    refine Ev.iconst (v := 0) (am_dt kX10_mark 15 rfl) (by decide) ?_
    exact Ev.iret .boolean (am_dt kX10_mark 16 rfl) rfl rfl k
  · have k := k.2 c
    refine Ev.iload_n 2 (am_dt kX10_mark 8 rfl) rfl rfl ?_
    refine Ev.if_eq (tgt := 29) (am_dt kX10_mark 9 rfl) (by decide) (fun c => ?_) (fun c => ?_)
    · have k := k.1 c
      exact k
    · have k := k.2 c
      refine Ev.aload_n 0 (am_dt kX10_mark 10 rfl) rfl rfl ?_
      obtain ⟨f6, k⟩ := k
      obtain ⟨f7, k⟩ := k
      refine Ev.getR (ci := 10) (k := 54) (am_dt kX10_mark 11 rfl) (by decide) (by decide) rfl wd_578 f6 f7 ?_
      refine Ev.iload_n 1 (am_dt kX10_mark 12 rfl) rfl rfl ?_
      obtain ⟨f8, k⟩ := k
      obtain ⟨f9, k⟩ := k
      refine Ev.zald (am_dt kX10_mark 13 rfl) f8 f9 ?_
      refine Ev.if_ne (tgt := 29) (am_dt kX10_mark 14 rfl) (by decide) (fun c => ?_) (fun c => ?_)
      · have k := k.2 c
        exact k
      · have k := k.1 c
        refine Ev.iconst (v := 0) (am_dt kX10_mark 15 rfl) (by decide) ?_
        exact Ev.iret .boolean (am_dt kX10_mark 16 rfl) rfl rfl k
set_option maxRecDepth 20000 in
set_option maxHeartbeats 2000000 in
theorem bX10_mark_29 {w : am_W} {d : Nat} {h : am_H} {Q : Option Value → am_H → Prop} {a0 : Nat} {x1 : Int32} {x2 : Int32}  (k : (hK h a0 = 10) ∧ ((hR h a0 54 ≠ 0) ∧ ((hK h (hR h a0 54) = 14) ∧ ((vp_in x1 (hN h (hR h a0 54))) ∧ (∀ h5 : am_H, h5 = sI h (hR h a0 54) (Int32.toNatClampNeg x1) 1 → ((x2 = 0 → (EvM w mX10_lays d [.ref a0, .int 0, .int (2 + x1)] h5 (fun r7 h6 => r7 = none ∧ (Q (some (.int 1)) h6)))) ∧ (¬ x2 = 0 → (EvM w mX10_lays d [.ref a0, .int (2 + x1), .int 0] h5 (fun r9 h8 => r9 = none ∧ (Q (some (.int 1)) h8)))))))))) : Ev w (am_Z w) mX10_mark (d + 1) 29 [(0, .ref a0), (1, .int x1), (2, .int x2)] [] h Q := by
  refine Ev.aload_n 0 (am_dt kX10_mark 17 rfl) rfl rfl ?_
  obtain ⟨f1, k⟩ := k
  obtain ⟨f2, k⟩ := k
  refine Ev.getR (ci := 10) (k := 54) (am_dt kX10_mark 18 rfl) (by decide) (by decide) rfl wd_578 f1 f2 ?_
  refine Ev.iload_n 1 (am_dt kX10_mark 19 rfl) rfl rfl ?_
  refine Ev.iconst (v := 1) (am_dt kX10_mark 20 rfl) (by decide) ?_
  obtain ⟨f3, k⟩ := k
  obtain ⟨f4, k⟩ := k
  refine Ev.zast' (am_dt kX10_mark 21 rfl) f3 f4 rfl (fun h5 eh5 => ?_)
  have k := k h5 eh5
  have f1 := kI eh5 f1
  have f3 := kI eh5 f3
  refine Ev.iload_n 2 (am_dt kX10_mark 22 rfl) rfl rfl ?_
  refine Ev.if_eq (tgt := 51) (am_dt kX10_mark 23 rfl) (by decide) (fun c => ?_) (fun c => ?_)
  · have k := k.1 c
    refine Ev.aload_n 0 (am_dt kX10_mark 31 rfl) rfl rfl ?_
    refine Ev.iconst (v := 0) (am_dt kX10_mark 32 rfl) (by decide) ?_
    refine Ev.iconst (v := 2) (am_dt kX10_mark 33 rfl) (by decide) ?_
    refine Ev.iload_n 1 (am_dt kX10_mark 34 rfl) rfl rfl ?_
    refine Ev.iadd (am_dt kX10_mark 35 rfl) ?_
    refine Ev.callV (ci := 10) (v := mX10_lays) (As := [.int 0, .int (2 + x1)]) (st := []) okX10_lays wd_695 wd_696 wd_697 (am_dt kX10_mark 36 rfl) (by decide) rfl rfl (Nat.le_of_ble_eq_true rfl) (Nat.le_of_ble_eq_true rfl) f1 ?_
    refine EvM.mono k (fun r7 h6 k => ?_)
    obtain ⟨rfl, k⟩ := k
    show Ev w _ _ _ 59 _ [] _ _
    refine Ev.iconst (v := 1) (am_dt kX10_mark 37 rfl) (by decide) ?_
    exact Ev.iret .boolean (am_dt kX10_mark 38 rfl) rfl rfl k
  · have k := k.2 c
    refine Ev.aload_n 0 (am_dt kX10_mark 24 rfl) rfl rfl ?_
    refine Ev.iconst (v := 2) (am_dt kX10_mark 25 rfl) (by decide) ?_
    refine Ev.iload_n 1 (am_dt kX10_mark 26 rfl) rfl rfl ?_
    refine Ev.iadd (am_dt kX10_mark 27 rfl) ?_
    refine Ev.iconst (v := 0) (am_dt kX10_mark 28 rfl) (by decide) ?_
    refine Ev.callV (ci := 10) (v := mX10_lays) (As := [.int (2 + x1), .int 0]) (st := []) okX10_lays wd_695 wd_696 wd_697 (am_dt kX10_mark 29 rfl) (by decide) rfl rfl (Nat.le_of_ble_eq_true rfl) (Nat.le_of_ble_eq_true rfl) f1 ?_
    refine EvM.mono k (fun r9 h8 k => ?_)
    obtain ⟨rfl, k⟩ := k
    show Ev w _ _ _ 48 _ [] _ _
    refine Ev.goto (tgt := 59) (am_dt kX10_mark 30 rfl) (by decide) ?_
    refine Ev.iconst (v := 1) (am_dt kX10_mark 37 rfl) (by decide) ?_
    exact Ev.iret .boolean (am_dt kX10_mark 38 rfl) rfl rfl k
set_option maxRecDepth 20000 in
set_option maxHeartbeats 2000000 in
theorem bX10_count_0 {w : am_W} {d : Nat} {h : am_H} {Q : Option Value → am_H → Prop} {a0 : Nat} {x1 : Int32}  (k : (hK h a0 = 10) ∧ (∀ h2 : am_H, h2 = sI h a0 0 0 → (EvM w mX10_within d [.int x1, .int 0, .int 8] h2 (fun r4 h3 => ∃ v5 : Int32, r4 = some (.int v5) ∧ ((v5 = 0 → (Q (some (.int ((-1)))) h3)) ∧ (¬ v5 = 0 → ((3 ≤ x1 → ((x1 = 3 → ((hK h3 a0 = 10) ∧ ((hR h3 a0 10 ≠ 0) ∧ ((hK h3 (hR h3 a0 10) = 12) ∧ ((vp_in 0 (hN h3 (hR h3 a0 10))) ∧ (Q (some (.int (hI h3 (hR h3 a0 10) (Int32.toNatClampNeg 0)))) h3)))))) ∧ (¬ x1 = 3 → ((x1 = 4 → ((hK h3 a0 = 10) ∧ ((hR h3 a0 10 ≠ 0) ∧ ((hK h3 (hR h3 a0 10) = 12) ∧ ((vp_in 1 (hN h3 (hR h3 a0 10))) ∧ (Q (some (.int (hI h3 (hR h3 a0 10) (Int32.toNatClampNeg 1)))) h3)))))) ∧ (¬ x1 = 4 → ((x1 = 5 → ((hK h3 a0 = 10) ∧ ((hR h3 a0 10 ≠ 0) ∧ ((hK h3 (hR h3 a0 10) = 12) ∧ ((vp_in 2 (hN h3 (hR h3 a0 10))) ∧ (Q (some (.int (hI h3 (hR h3 a0 10) (Int32.toNatClampNeg 2)))) h3)))))) ∧ (¬ x1 = 5 → ((x1 = 6 → ((hK h3 a0 = 10) ∧ (EvM w mX10_choosers d [.ref a0, .int 0] h3 (fun r20 h19 => ∃ v21 : Int32, r20 = some (.int v21) ∧ (Q (some (.int v21)) h19))))) ∧ (¬ x1 = 6 → ((x1 = 7 → ((hK h3 a0 = 10) ∧ ((hR h3 a0 10 ≠ 0) ∧ ((hK h3 (hR h3 a0 10) = 12) ∧ ((vp_in 9 (hN h3 (hR h3 a0 10))) ∧ (Q (some (.int (hI h3 (hR h3 a0 10) (Int32.toNatClampNeg 9)))) h3)))))) ∧ (¬ x1 = 7 → ((hK h3 a0 = 10) ∧ (Q (some (.int (hI h3 a0 1))) h3))))))))))))) ∧ (¬ 3 ≤ x1 → ((x1 = 0 → ((hK h3 a0 = 10) ∧ ((hR h3 a0 10 ≠ 0) ∧ ((hK h3 (hR h3 a0 10) = 12) ∧ ((vp_in 7 (hN h3 (hR h3 a0 10))) ∧ (Q (some (.int (hI h3 (hR h3 a0 10) (Int32.toNatClampNeg 7)))) h3)))))) ∧ (¬ x1 = 0 → ((x1 = 1 → ((hK h3 a0 = 10) ∧ ((hR h3 a0 10 ≠ 0) ∧ ((hK h3 (hR h3 a0 10) = 12) ∧ ((vp_in 6 (hN h3 (hR h3 a0 10))) ∧ (Q (some (.int (hI h3 (hR h3 a0 10) (Int32.toNatClampNeg 6)))) h3)))))) ∧ (¬ x1 = 1 → ((hK h3 a0 = 10) ∧ ((hR h3 a0 10 ≠ 0) ∧ ((hK h3 (hR h3 a0 10) = 12) ∧ ((vp_in 8 (hN h3 (hR h3 a0 10))) ∧ (Q (some (.int (hI h3 (hR h3 a0 10) (Int32.toNatClampNeg 8)))) h3))))))))))))))))) : EvM w mX10_count (d + 1) [.ref a0, .int x1] h Q := by
  show Ev w (am_Z w) mX10_count (d + 1) 0 [(0, .ref a0), (1, .int x1)] [] h Q
  refine Ev.aload_n 0 (am_dt kX10_count 0 rfl) rfl rfl ?_
  refine Ev.iconst (v := 0) (am_dt kX10_count 1 rfl) (by decide) ?_
  obtain ⟨f1, k⟩ := k
  refine Ev.putI' (ci := 10) (k := 0) (am_dt kX10_count 2 rfl) (by decide) (by decide) wd_583 rfl rfl rfl rfl f1 (fun h2 eh2 => ?_)
  have k := k h2 eh2
  have f1 := kI eh2 f1
  refine Ev.iload_n 1 (am_dt kX10_count 3 rfl) rfl rfl ?_
  refine Ev.iconst (v := 0) (am_dt kX10_count 4 rfl) (by decide) ?_
  refine Ev.bipush (v := 8) (am_dt kX10_count 5 rfl) (by decide) ?_
  refine Ev.callS (v := mX10_within) (As := [.int x1, .int 0, .int 8]) (st := []) okX10_within wd_653 wd_652 (am_dt kX10_count 6 rfl) rfl rfl (Nat.le_of_ble_eq_true rfl) (Nat.le_of_ble_eq_true rfl) ?_
  refine EvM.mono k (fun r4 h3 k => ?_)
  obtain ⟨v5, rfl, k⟩ := k
  show Ev w _ _ _ 12 _ [.int v5] _ _
  refine Ev.if_ne (tgt := 17) (am_dt kX10_count 7 rfl) (by decide) (fun c => ?_) (fun c => ?_)
  · have k := k.2 c
    refine Ev.iload_n 1 (am_dt kX10_count 10 rfl) rfl rfl ?_
    refine Ev.iconst (v := 3) (am_dt kX10_count 11 rfl) (by decide) ?_
    refine Ev.icmp_ge (tgt := 59) (am_dt kX10_count 12 rfl) (by decide) (fun c => ?_) (fun c => ?_)
    · have k := k.1 c
      refine Ev.iload_n 1 (am_dt kX10_count 33 rfl) rfl rfl ?_
      refine Ev.iconst (v := 3) (am_dt kX10_count 34 rfl) (by decide) ?_
      refine Ev.icmp_ne (tgt := 73) (am_dt kX10_count 35 rfl) (by decide) (fun c => ?_) (fun c => ?_)
      · have k := k.2 c
        refine Ev.iload_n 1 (am_dt kX10_count 41 rfl) rfl rfl ?_
        refine Ev.iconst (v := 4) (am_dt kX10_count 42 rfl) (by decide) ?_
        refine Ev.icmp_ne (tgt := 87) (am_dt kX10_count 43 rfl) (by decide) (fun c => ?_) (fun c => ?_)
        · have k := k.2 c
          refine Ev.iload_n 1 (am_dt kX10_count 49 rfl) rfl rfl ?_
          refine Ev.iconst (v := 5) (am_dt kX10_count 50 rfl) (by decide) ?_
          refine Ev.icmp_ne (tgt := 101) (am_dt kX10_count 51 rfl) (by decide) (fun c => ?_) (fun c => ?_)
          · have k := k.2 c
            refine Ev.iload_n 1 (am_dt kX10_count 57 rfl) rfl rfl ?_
            refine Ev.bipush (v := 6) (am_dt kX10_count 58 rfl) (by decide) ?_
            refine Ev.icmp_ne (tgt := 115) (am_dt kX10_count 59 rfl) (by decide) (fun c => ?_) (fun c => ?_)
            · have k := k.2 c
              refine Ev.iload_n 1 (am_dt kX10_count 64 rfl) rfl rfl ?_
              refine Ev.bipush (v := 7) (am_dt kX10_count 65 rfl) (by decide) ?_
              refine Ev.icmp_ne (tgt := 131) (am_dt kX10_count 66 rfl) (by decide) (fun c => ?_) (fun c => ?_)
              · have k := k.2 c
                refine Ev.aload_n 0 (am_dt kX10_count 72 rfl) rfl rfl ?_
                obtain ⟨f26, k⟩ := k
                refine Ev.getI (ci := 10) (k := 1) (am_dt kX10_count 73 rfl) (by decide) (by decide) rfl wd_584 f26 ?_
                exact Ev.iret .int (am_dt kX10_count 74 rfl) rfl rfl k
              · have k := k.1 c
                refine Ev.aload_n 0 (am_dt kX10_count 67 rfl) rfl rfl ?_
                obtain ⟨f22, k⟩ := k
                obtain ⟨f23, k⟩ := k
                refine Ev.getR (ci := 10) (k := 10) (am_dt kX10_count 68 rfl) (by decide) (by decide) rfl wd_543 f22 f23 ?_
                refine Ev.bipush (v := 9) (am_dt kX10_count 69 rfl) (by decide) ?_
                obtain ⟨f24, k⟩ := k
                obtain ⟨f25, k⟩ := k
                refine Ev.iald (am_dt kX10_count 70 rfl) f24 f25 ?_
                refine Ev.goto (tgt := 135) (am_dt kX10_count 71 rfl) (by decide) ?_
                exact Ev.iret .int (am_dt kX10_count 74 rfl) rfl rfl k
            · have k := k.1 c
              refine Ev.aload_n 0 (am_dt kX10_count 60 rfl) rfl rfl ?_
              refine Ev.iconst (v := 0) (am_dt kX10_count 61 rfl) (by decide) ?_
              obtain ⟨f18, k⟩ := k
              refine Ev.callV (ci := 10) (v := mX10_choosers) (As := [.int 0]) (st := []) okX10_choosers wd_675 wd_676 wd_677 (am_dt kX10_count 62 rfl) (by decide) rfl rfl (Nat.le_of_ble_eq_true rfl) (Nat.le_of_ble_eq_true rfl) f18 ?_
              refine EvM.mono k (fun r20 h19 k => ?_)
              obtain ⟨v21, rfl, k⟩ := k
              show Ev w _ _ _ 112 _ [.int v21] _ _
              refine Ev.goto (tgt := 135) (am_dt kX10_count 63 rfl) (by decide) ?_
              exact Ev.iret .int (am_dt kX10_count 74 rfl) rfl rfl k
          · have k := k.1 c
            refine Ev.aload_n 0 (am_dt kX10_count 52 rfl) rfl rfl ?_
            obtain ⟨f14, k⟩ := k
            obtain ⟨f15, k⟩ := k
            refine Ev.getR (ci := 10) (k := 10) (am_dt kX10_count 53 rfl) (by decide) (by decide) rfl wd_543 f14 f15 ?_
            refine Ev.iconst (v := 2) (am_dt kX10_count 54 rfl) (by decide) ?_
            obtain ⟨f16, k⟩ := k
            obtain ⟨f17, k⟩ := k
            refine Ev.iald (am_dt kX10_count 55 rfl) f16 f17 ?_
            refine Ev.goto (tgt := 135) (am_dt kX10_count 56 rfl) (by decide) ?_
            exact Ev.iret .int (am_dt kX10_count 74 rfl) rfl rfl k
        · have k := k.1 c
          refine Ev.aload_n 0 (am_dt kX10_count 44 rfl) rfl rfl ?_
          obtain ⟨f10, k⟩ := k
          obtain ⟨f11, k⟩ := k
          refine Ev.getR (ci := 10) (k := 10) (am_dt kX10_count 45 rfl) (by decide) (by decide) rfl wd_543 f10 f11 ?_
          refine Ev.iconst (v := 1) (am_dt kX10_count 46 rfl) (by decide) ?_
          obtain ⟨f12, k⟩ := k
          obtain ⟨f13, k⟩ := k
          refine Ev.iald (am_dt kX10_count 47 rfl) f12 f13 ?_
          refine Ev.goto (tgt := 135) (am_dt kX10_count 48 rfl) (by decide) ?_
          exact Ev.iret .int (am_dt kX10_count 74 rfl) rfl rfl k
      · have k := k.1 c
        refine Ev.aload_n 0 (am_dt kX10_count 36 rfl) rfl rfl ?_
        obtain ⟨f6, k⟩ := k
        obtain ⟨f7, k⟩ := k
        refine Ev.getR (ci := 10) (k := 10) (am_dt kX10_count 37 rfl) (by decide) (by decide) rfl wd_543 f6 f7 ?_
        refine Ev.iconst (v := 0) (am_dt kX10_count 38 rfl) (by decide) ?_
        obtain ⟨f8, k⟩ := k
        obtain ⟨f9, k⟩ := k
        refine Ev.iald (am_dt kX10_count 39 rfl) f8 f9 ?_
        refine Ev.goto (tgt := 135) (am_dt kX10_count 40 rfl) (by decide) ?_
        exact Ev.iret .int (am_dt kX10_count 74 rfl) rfl rfl k
    · have k := k.2 c
      refine Ev.iload_n 1 (am_dt kX10_count 13 rfl) rfl rfl ?_
      refine Ev.if_ne (tgt := 36) (am_dt kX10_count 14 rfl) (by decide) (fun c => ?_) (fun c => ?_)
      · have k := k.2 c
        refine Ev.iload_n 1 (am_dt kX10_count 20 rfl) rfl rfl ?_
        refine Ev.iconst (v := 1) (am_dt kX10_count 21 rfl) (by decide) ?_
        refine Ev.icmp_ne (tgt := 51) (am_dt kX10_count 22 rfl) (by decide) (fun c => ?_) (fun c => ?_)
        · have k := k.2 c
          refine Ev.aload_n 0 (am_dt kX10_count 28 rfl) rfl rfl ?_
          obtain ⟨f35, k⟩ := k
          obtain ⟨f36, k⟩ := k
          refine Ev.getR (ci := 10) (k := 10) (am_dt kX10_count 29 rfl) (by decide) (by decide) rfl wd_543 f35 f36 ?_
          refine Ev.bipush (v := 8) (am_dt kX10_count 30 rfl) (by decide) ?_
          obtain ⟨f37, k⟩ := k
          obtain ⟨f38, k⟩ := k
          refine Ev.iald (am_dt kX10_count 31 rfl) f37 f38 ?_
          exact Ev.iret .int (am_dt kX10_count 32 rfl) rfl rfl k
        · have k := k.1 c
          refine Ev.aload_n 0 (am_dt kX10_count 23 rfl) rfl rfl ?_
          obtain ⟨f31, k⟩ := k
          obtain ⟨f32, k⟩ := k
          refine Ev.getR (ci := 10) (k := 10) (am_dt kX10_count 24 rfl) (by decide) (by decide) rfl wd_543 f31 f32 ?_
          refine Ev.bipush (v := 6) (am_dt kX10_count 25 rfl) (by decide) ?_
          obtain ⟨f33, k⟩ := k
          obtain ⟨f34, k⟩ := k
          refine Ev.iald (am_dt kX10_count 26 rfl) f33 f34 ?_
          refine Ev.goto (tgt := 58) (am_dt kX10_count 27 rfl) (by decide) ?_
          exact Ev.iret .int (am_dt kX10_count 32 rfl) rfl rfl k
      · have k := k.1 c
        refine Ev.aload_n 0 (am_dt kX10_count 15 rfl) rfl rfl ?_
        obtain ⟨f27, k⟩ := k
        obtain ⟨f28, k⟩ := k
        refine Ev.getR (ci := 10) (k := 10) (am_dt kX10_count 16 rfl) (by decide) (by decide) rfl wd_543 f27 f28 ?_
        refine Ev.bipush (v := 7) (am_dt kX10_count 17 rfl) (by decide) ?_
        obtain ⟨f29, k⟩ := k
        obtain ⟨f30, k⟩ := k
        refine Ev.iald (am_dt kX10_count 18 rfl) f29 f30 ?_
        refine Ev.goto (tgt := 58) (am_dt kX10_count 19 rfl) (by decide) ?_
        exact Ev.iret .int (am_dt kX10_count 32 rfl) rfl rfl k
  · have k := k.1 c
    refine Ev.iconst (v := (-1)) (am_dt kX10_count 8 rfl) (by decide) ?_
    exact Ev.iret .int (am_dt kX10_count 9 rfl) rfl rfl k
