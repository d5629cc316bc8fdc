set_option maxRecDepth 20000 in
set_option maxHeartbeats 2000000 in
theorem bX10_best_0 {w : am_W} {d : Nat} {h : am_H} {Q : Option Value → am_H → Prop} {a0 : Nat}  (k : (am_L 10 a0 h) ∧ (∀ h2 : am_H, h2 = sI h a0 0 0 → ((vp_in 8 (hN h2 (a0 + 2))) ∧ (Ev w (am_Z w) mX10_best (d + 1) 20 [(0, .ref a0), (1, .int (hI h2 (a0 + 2) (Int32.toNatClampNeg 8))), (2, .int ((-1))), (3, .int 0), (4, .int 0)] [] h2 Q)))) : EvM w mX10_best (d + 1) [.ref a0] h Q := by
  show Ev w (am_Z w) mX10_best (d + 1) 0 [(0, .ref a0)] [] h Q
  refine Ev.aload_n 0 (am_dt kX10_best 0 rfl) rfl rfl ?_
  refine Ev.iconst (v := 0) (am_dt kX10_best 1 rfl) (by decide) ?_
  obtain ⟨f1, k⟩ := k
  refine Ev.putI' (ci := 10) (k := 0) (am_dt kX10_best 2 rfl) (by decide) (by decide) wd_583 rfl rfl rfl rfl f1.1 (fun h2 eh2 => ?_)
  have k := k h2 eh2
  have f1 := am_LsI eh2 f1
  refine Ev.aload_n 0 (am_dt kX10_best 3 rfl) rfl rfl ?_
  refine Ev.getRe (ci := 10) (k := 10) (r := a0 + 2) (am_dt kX10_best 4 rfl) (by decide) (by decide) rfl wd_543 f1.1 (am_L.r f1 1 rfl) (by omega) ?_
  refine Ev.bipush (v := 8) (am_dt kX10_best 5 rfl) (by decide) ?_
  obtain ⟨f3, k⟩ := k
  refine Ev.iald (am_dt kX10_best 6 rfl) (am_L.s f1 1 rfl) f3 ?_
  refine Ev.istore_n (lv' := [(1, .int (hI h2 (a0 + 2) (Int32.toNatClampNeg 8))), (0, .ref a0)]) (am_dt kX10_best 7 rfl) rfl (by decide) rfl ?_
  refine Ev.iconst (v := (-1)) (am_dt kX10_best 8 rfl) (by decide) ?_
  refine Ev.istore_n (lv' := [(2, .int ((-1))), (1, .int (hI h2 (a0 + 2) (Int32.toNatClampNeg 8))), (0, .ref a0)]) (am_dt kX10_best 9 rfl) rfl (by decide) rfl ?_
  refine Ev.iconst (v := 0) (am_dt kX10_best 10 rfl) (by decide) ?_
  refine Ev.istore_n (lv' := [(3, .int 0), (2, .int ((-1))), (1, .int (hI h2 (a0 + 2) (Int32.toNatClampNeg 8))), (0, .ref a0)]) (am_dt kX10_best 11 rfl) rfl (by decide) rfl ?_
  refine Ev.iconst (v := 0) (am_dt kX10_best 12 rfl) (by decide) ?_
  refine Ev.istore (lv' := [(4, .int 0), (3, .int 0), (2, .int ((-1))), (1, .int (hI h2 (a0 + 2) (Int32.toNatClampNeg 8))), (0, .ref a0)]) (am_dt kX10_best 13 rfl) (by decide) rfl ?_
  exact Ev.sub [4, 3, 2, 1, 0] rfl k
set_option maxRecDepth 20000 in
set_option maxHeartbeats 2000000 in
theorem bX10_best_20 {w : am_W} {d : Nat} {h : am_H} {Q : Option Value → am_H → Prop} {a0 : Nat} {x1 : Int32} {x2 : Int32} {x3 : Int32} {x4 : Int32}  (k : (am_L 10 a0 h) ∧ ((vp_in 6 (hN h (a0 + 2))) ∧ (((hI h (a0 + 2) (Int32.toNatClampNeg 6)) ≤ x4 → ((vp_in 8 (hN h (a0 + 2))) ∧ (∀ h4 : am_H, h4 = sI h (a0 + 2) (Int32.toNatClampNeg 8) x1 → (Q (some (.int x2)) h4)))) ∧ (¬ (hI h (a0 + 2) (Int32.toNatClampNeg 6)) ≤ x4 → ((vp_in 8 (hN h (a0 + 2))) ∧ (∀ h6 : am_H, h6 = sI h (a0 + 2) (Int32.toNatClampNeg 8) x4 → (EvM w mX10_day d [.ref a0, .int ((-1))] h6 (fun r8 h7 => r8 = none ∧ ((am_L 10 a0 h7) ∧ (EvM w mX10_costAll d [.ref a0, .int ((-1))] h7 (fun r11 h10 => ∃ v12 : Int32, r11 = some (.int v12) ∧ ((x2 < 0 → (Ev w (am_Z w) mX10_best (d + 1) 20 [(0, .ref a0), (1, .int x1), (2, .int x4), (3, .int v12), (4, .int (x4 + 1))] [] h10 Q)) ∧ (¬ x2 < 0 → ((v12 < x3 → (Ev w (am_Z w) mX10_best (d + 1) 20 [(0, .ref a0), (1, .int x1), (2, .int x4), (3, .int v12), (4, .int (x4 + 1))] [] h10 Q)) ∧ (¬ v12 < x3 → (Ev w (am_Z w) mX10_best (d + 1) 20 [(0, .ref a0), (1, .int x1), (2, .int x2), (3, .int x3), (4, .int (x4 + 1))] [] h10 Q)))))))))))))))) : Ev w (am_Z w) mX10_best (d + 1) 20 [(0, .ref a0), (1, .int x1), (2, .int x2), (3, .int x3), (4, .int x4)] [] h Q := by
  refine Ev.iload 4 (am_dt kX10_best 14 rfl) rfl ?_
  refine Ev.aload_n 0 (am_dt kX10_best 15 rfl) rfl rfl ?_
  obtain ⟨f1, k⟩ := k
  refine Ev.getRe (ci := 10) (k := 10) (r := a0 + 2) (am_dt kX10_best 16 rfl) (by decide) (by decide) rfl wd_543 f1.1 (am_L.r f1 1 rfl) (by omega) ?_
  refine Ev.bipush (v := 6) (am_dt kX10_best 17 rfl) (by decide) ?_
  obtain ⟨f2, k⟩ := k
  refine Ev.iald (am_dt kX10_best 18 rfl) (am_L.s f1 1 rfl) f2 ?_
  refine Ev.icmp_ge (tgt := 78) (am_dt kX10_best 19 rfl) (by decide) (fun c => ?_) (fun c => ?_)
  · have k := k.1 c
    refine Ev.aload_n 0 (am_dt kX10_best 44 rfl) rfl rfl ?_
    refine Ev.getRe (ci := 10) (k := 10) (r := a0 + 2) (am_dt kX10_best 45 rfl) (by decide) (by decide) rfl wd_543 f1.1 (am_L.r f1 1 rfl) (by omega) ?_
    refine Ev.bipush (v := 8) (am_dt kX10_best 46 rfl) (by decide) ?_
    refine Ev.iload_n 1 (am_dt kX10_best 47 rfl) rfl rfl ?_
    obtain ⟨f3, k⟩ := k
    refine Ev.iast' (am_dt kX10_best 48 rfl) (am_L.s f1 1 rfl) f3 (fun h4 eh4 => ?_)
    have k := k h4 eh4
    have f1 := am_LsI eh4 f1
    refine Ev.iload_n 2 (am_dt kX10_best 49 rfl) rfl rfl ?_
    exact Ev.iret .int (am_dt kX10_best 50 rfl) rfl rfl k
  · have k := k.2 c
    refine Ev.aload_n 0 (am_dt kX10_best 20 rfl) rfl rfl ?_
    refine Ev.getRe (ci := 10) (k := 10) (r := a0 + 2) (am_dt kX10_best 21 rfl) (by decide) (by decide) rfl wd_543 f1.1 (am_L.r f1 1 rfl) (by omega) ?_
    refine Ev.bipush (v := 8) (am_dt kX10_best 22 rfl) (by decide) ?_
    refine Ev.iload 4 (am_dt kX10_best 23 rfl) rfl ?_
    obtain ⟨f5, k⟩ := k
    refine Ev.iast' (am_dt kX10_best 24 rfl) (am_L.s f1 1 rfl) f5 (fun h6 eh6 => ?_)
    have k := k h6 eh6
    have f1 := am_LsI eh6 f1
    refine Ev.aload_n 0 (am_dt kX10_best 25 rfl) rfl rfl ?_
    refine Ev.iconst (v := (-1)) (am_dt kX10_best 26 rfl) (by decide) ?_
    refine Ev.callV (ci := 10) (v := mX10_day) (As := [.int ((-1))]) (st := []) okX10_day wd_742 wd_743 wd_744 (am_dt kX10_best 27 rfl) (by decide) rfl rfl (Nat.le_of_ble_eq_true rfl) (Nat.le_of_ble_eq_true rfl) f1.1 ?_
    refine EvM.mono k (fun r8 h7 k => ?_)
    obtain ⟨rfl, k⟩ := k
    show Ev w _ _ _ 46 _ [] _ _
    refine Ev.aload_n 0 (am_dt kX10_best 28 rfl) rfl rfl ?_
    refine Ev.iconst (v := (-1)) (am_dt kX10_best 29 rfl) (by decide) ?_
    obtain ⟨f9, k⟩ := k
    refine Ev.callV (ci := 10) (v := mX10_costAll) (As := [.int ((-1))]) (st := []) okX10_costAll wd_745 wd_746 wd_747 (am_dt kX10_best 30 rfl) (by decide) rfl rfl (Nat.le_of_ble_eq_true rfl) (Nat.le_of_ble_eq_true rfl) f9.1 ?_
    refine EvM.mono k (fun r11 h10 k => ?_)
    obtain ⟨v12, rfl, k⟩ := k
    show Ev w _ _ _ 51 _ [.int v12] _ _
    refine Ev.istore (lv' := [(5, .int v12), (0, .ref a0), (1, .int x1), (2, .int x2), (3, .int x3), (4, .int x4)]) (am_dt kX10_best 31 rfl) (by decide) rfl ?_
    refine Ev.iload_n 3 (am_dt kX10_best 32 rfl) rfl rfl ?_
    refine Ev.if_lt (tgt := 66) (am_dt kX10_best 33 rfl) (by decide) (fun c => ?_) (fun c => ?_)
    · have k := k.1 c
      refine Ev.iload 5 (am_dt kX10_best 38 rfl) rfl ?_
      refine Ev.istore_n (lv' := [(2, .int x4), (5, .int v12), (0, .ref a0), (1, .int x1), (3, .int x3), (4, .int x4)]) (am_dt kX10_best 39 rfl) rfl (by decide) rfl ?_
      refine Ev.iload 1 (am_dt kX10_best 40 rfl) rfl ?_
      refine Ev.istore_n (lv' := [(3, .int v12), (2, .int x4), (5, .int v12), (0, .ref a0), (1, .int x1), (4, .int x4)]) (am_dt kX10_best 41 rfl) rfl (by decide) rfl ?_
      refine Ev.iinc (v := x4 + 1) (lv' := [(4, .int (x4 + 1)), (3, .int v12), (2, .int x4), (5, .int v12), (0, .ref a0), (1, .int x1)]) 5 (am_dt kX10_best 42 rfl) rfl rfl (by decide) rfl ?_
      refine Ev.goto (tgt := 20) (am_dt kX10_best 43 rfl) (by decide) ?_
      exact Ev.sub [4, 5, 2, 1, 0] rfl k
    · have k := k.2 c
      refine Ev.iload 0 (am_dt kX10_best 34 rfl) rfl ?_
      refine Ev.iload_n 4 (am_dt kX10_best 35 rfl) rfl rfl ?_
      refine Ev.icmp_lt (tgt := 66) (am_dt kX10_best 36 rfl) (by decide) (fun c => ?_) (fun c => ?_)
      · have k := k.1 c
        refine Ev.iload 5 (am_dt kX10_best 38 rfl) rfl ?_
        refine Ev.istore_n (lv' := [(2, .int x4), (5, .int v12), (0, .ref a0), (1, .int x1), (3, .int x3), (4, .int x4)]) (am_dt kX10_best 39 rfl) rfl (by decide) rfl ?_
        refine Ev.iload 1 (am_dt kX10_best 40 rfl) rfl ?_
        refine Ev.istore_n (lv' := [(3, .int v12), (2, .int x4), (5, .int v12), (0, .ref a0), (1, .int x1), (4, .int x4)]) (am_dt kX10_best 41 rfl) rfl (by decide) rfl ?_
        refine Ev.iinc (v := x4 + 1) (lv' := [(4, .int (x4 + 1)), (3, .int v12), (2, .int x4), (5, .int v12), (0, .ref a0), (1, .int x1)]) 5 (am_dt kX10_best 42 rfl) rfl rfl (by decide) rfl ?_
        refine Ev.goto (tgt := 20) (am_dt kX10_best 43 rfl) (by decide) ?_
        exact Ev.sub [4, 5, 2, 1, 0] rfl k
      · have k := k.2 c
        refine Ev.goto (tgt := 72) (am_dt kX10_best 37 rfl) (by decide) ?_
        refine Ev.iinc (v := x4 + 1) (lv' := [(4, .int (x4 + 1)), (5, .int v12), (0, .ref a0), (1, .int x1), (2, .int x2), (3, .int x3)]) 5 (am_dt kX10_best 42 rfl) rfl rfl (by decide) rfl ?_
        refine Ev.goto (tgt := 20) (am_dt kX10_best 43 rfl) (by decide) ?_
        exact Ev.sub [2, 3, 4, 5, 0] rfl k
set_option maxRecDepth 20000 in
set_option maxHeartbeats 2000000 in
theorem bX10_mark_0 {w : am_W} {d : Nat} {h : am_H} {Q : Option Value → am_H → Prop} {a0 : Nat} {x1 : Int32} {x2 : Int32}  (k : (am_L 10 a0 h) ∧ (∀ h2 : am_H, h2 = sI h a0 0 0 → (EvM w mX10_within d [.int x1, .int 0, .int 3] h2 (fun r4 h3 => ∃ v5 : Int32, r4 = some (.int v5) ∧ ((v5 = 0 → (Q (some (.int 0)) h3)) ∧ (¬ v5 = 0 → ((x2 = 0 → (Ev w (am_Z w) mX10_mark (d + 1) 29 [(0, .ref a0), (1, .int x1), (2, .int x2)] [] h3 Q)) ∧ (¬ x2 = 0 → ((am_L 10 a0 h3) ∧ ((vp_in x1 (hN h3 (a0 + 37))) ∧ (((hI h3 (a0 + 37) (Int32.toNatClampNeg x1)) = 0 → (Q (some (.int 0)) h3)) ∧ (¬ (hI h3 (a0 + 37) (Int32.toNatClampNeg x1)) = 0 → (Ev w (am_Z w) mX10_mark (d + 1) 29 [(0, .ref a0), (1, .int x1), (2, .int x2)] [] h3 Q))))))))))))) : EvM w mX10_mark (d + 1) [.ref a0, .int x1, .int x2] h Q := by
  show Ev w (am_Z w) mX10_mark (d + 1) 0 [(0, .ref a0), (1, .int x1), (2, .int x2)] [] h Q
  refine Ev.aload_n 0 (am_dt kX10_mark 0 rfl) rfl rfl ?_
  refine Ev.iconst (v := 0) (am_dt kX10_mark 1 rfl) (by decide) ?_
  obtain ⟨f1, k⟩ := k
  refine Ev.putI' (ci := 10) (k := 0) (am_dt kX10_mark 2 rfl) (by decide) (by decide) wd_583 rfl rfl rfl rfl f1.1 (fun h2 eh2 => ?_)
  have k := k h2 eh2
  have f1 := am_LsI eh2 f1
  refine Ev.iload_n 1 (am_dt kX10_mark 3 rfl) rfl rfl ?_
  refine Ev.iconst (v := 0) (am_dt kX10_mark 4 rfl) (by decide) ?_
  refine Ev.iconst (v := 3) (am_dt kX10_mark 5 rfl) (by decide) ?_
  refine Ev.callS (v := mX10_within) (As := [.int x1, .int 0, .int 3]) (st := []) okX10_within wd_653 wd_652 (am_dt kX10_mark 6 rfl) rfl rfl (Nat.le_of_ble_eq_true rfl) (Nat.le_of_ble_eq_true rfl) ?_
  refine EvM.mono k (fun r4 h3 k => ?_)
  obtain ⟨v5, rfl, k⟩ := k
  show Ev w _ _ _ 11 _ [.int v5] _ _
  refine Ev.if_eq (tgt := 27) (am_dt kX10_mark 7 rfl) (by decide) (fun c => ?_) (fun c => ?_)
  · have k := k.1 c
    refine Ev.iconst (v := 0) (am_dt kX10_mark 15 rfl) (by decide) ?_
    exact Ev.iret .boolean (am_dt kX10_mark 16 rfl) rfl rfl k
  · have k := k.2 c
    refine Ev.iload_n 2 (am_dt kX10_mark 8 rfl) rfl rfl ?_
    refine Ev.if_eq (tgt := 29) (am_dt kX10_mark 9 rfl) (by decide) (fun c => ?_) (fun c => ?_)
    · have k := k.1 c
      exact k
    · have k := k.2 c
      refine Ev.aload_n 0 (am_dt kX10_mark 10 rfl) rfl rfl ?_
      obtain ⟨f6, k⟩ := k
      refine Ev.getRe (ci := 10) (k := 54) (r := a0 + 37) (am_dt kX10_mark 11 rfl) (by decide) (by decide) rfl wd_578 f6.1 (am_L.r f6 36 rfl) (by omega) ?_
      refine Ev.iload_n 1 (am_dt kX10_mark 12 rfl) rfl rfl ?_
      obtain ⟨f7, k⟩ := k
      refine Ev.zald (am_dt kX10_mark 13 rfl) (am_L.s f6 36 rfl) f7 ?_
      refine Ev.if_ne (tgt := 29) (am_dt kX10_mark 14 rfl) (by decide) (fun c => ?_) (fun c => ?_)
      · have k := k.2 c
        exact k
      · have k := k.1 c
        refine Ev.iconst (v := 0) (am_dt kX10_mark 15 rfl) (by decide) ?_
        exact Ev.iret .boolean (am_dt kX10_mark 16 rfl) rfl rfl k
set_option maxRecDepth 20000 in
set_option maxHeartbeats 2000000 in
theorem bX10_mark_29 {w : am_W} {d : Nat} {h : am_H} {Q : Option Value → am_H → Prop} {a0 : Nat} {x1 : Int32} {x2 : Int32}  (k : (am_L 10 a0 h) ∧ ((vp_in x1 (hN h (a0 + 37))) ∧ (∀ h3 : am_H, h3 = sI h (a0 + 37) (Int32.toNatClampNeg x1) 1 → ((x2 = 0 → (EvM w mX10_lays d [.ref a0, .int 0, .int (2 + x1)] h3 (fun r5 h4 => r5 = none ∧ (Q (some (.int 1)) h4)))) ∧ (¬ x2 = 0 → (EvM w mX10_lays d [.ref a0, .int (2 + x1), .int 0] h3 (fun r7 h6 => r7 = none ∧ (Q (some (.int 1)) h6)))))))) : Ev w (am_Z w) mX10_mark (d + 1) 29 [(0, .ref a0), (1, .int x1), (2, .int x2)] [] h Q := by
  refine Ev.aload_n 0 (am_dt kX10_mark 17 rfl) rfl rfl ?_
  obtain ⟨f1, k⟩ := k
  refine Ev.getRe (ci := 10) (k := 54) (r := a0 + 37) (am_dt kX10_mark 18 rfl) (by decide) (by decide) rfl wd_578 f1.1 (am_L.r f1 36 rfl) (by omega) ?_
  refine Ev.iload_n 1 (am_dt kX10_mark 19 rfl) rfl rfl ?_
  refine Ev.iconst (v := 1) (am_dt kX10_mark 20 rfl) (by decide) ?_
  obtain ⟨f2, k⟩ := k
  refine Ev.zast' (am_dt kX10_mark 21 rfl) (am_L.s f1 36 rfl) f2 rfl (fun h3 eh3 => ?_)
  have k := k h3 eh3
  have f1 := am_LsI eh3 f1
  refine Ev.iload_n 2 (am_dt kX10_mark 22 rfl) rfl rfl ?_
  refine Ev.if_eq (tgt := 51) (am_dt kX10_mark 23 rfl) (by decide) (fun c => ?_) (fun c => ?_)
  · have k := k.1 c
    refine Ev.aload_n 0 (am_dt kX10_mark 31 rfl) rfl rfl ?_
    refine Ev.iconst (v := 0) (am_dt kX10_mark 32 rfl) (by decide) ?_
    refine Ev.iconst (v := 2) (am_dt kX10_mark 33 rfl) (by decide) ?_
    refine Ev.iload_n 1 (am_dt kX10_mark 34 rfl) rfl rfl ?_
    refine Ev.iadd (am_dt kX10_mark 35 rfl) ?_
    refine Ev.callV (ci := 10) (v := mX10_lays) (As := [.int 0, .int (2 + x1)]) (st := []) okX10_lays wd_695 wd_696 wd_697 (am_dt kX10_mark 36 rfl) (by decide) rfl rfl (Nat.le_of_ble_eq_true rfl) (Nat.le_of_ble_eq_true rfl) f1.1 ?_
    refine EvM.mono k (fun r5 h4 k => ?_)
    obtain ⟨rfl, k⟩ := k
    show Ev w _ _ _ 59 _ [] _ _
    refine Ev.iconst (v := 1) (am_dt kX10_mark 37 rfl) (by decide) ?_
    exact Ev.iret .boolean (am_dt kX10_mark 38 rfl) rfl rfl k
  · have k := k.2 c
    refine Ev.aload_n 0 (am_dt kX10_mark 24 rfl) rfl rfl ?_
    refine Ev.iconst (v := 2) (am_dt kX10_mark 25 rfl) (by decide) ?_
    refine Ev.iload_n 1 (am_dt kX10_mark 26 rfl) rfl rfl ?_
    refine Ev.iadd (am_dt kX10_mark 27 rfl) ?_
    refine Ev.iconst (v := 0) (am_dt kX10_mark 28 rfl) (by decide) ?_
    refine Ev.callV (ci := 10) (v := mX10_lays) (As := [.int (2 + x1), .int 0]) (st := []) okX10_lays wd_695 wd_696 wd_697 (am_dt kX10_mark 29 rfl) (by decide) rfl rfl (Nat.le_of_ble_eq_true rfl) (Nat.le_of_ble_eq_true rfl) f1.1 ?_
    refine EvM.mono k (fun r7 h6 k => ?_)
    obtain ⟨rfl, k⟩ := k
    show Ev w _ _ _ 48 _ [] _ _
    refine Ev.goto (tgt := 59) (am_dt kX10_mark 30 rfl) (by decide) ?_
    refine Ev.iconst (v := 1) (am_dt kX10_mark 37 rfl) (by decide) ?_
    exact Ev.iret .boolean (am_dt kX10_mark 38 rfl) rfl rfl k
set_option maxRecDepth 20000 in
set_option maxHeartbeats 2000000 in
theorem bX10_count_0 {w : am_W} {d : Nat} {h : am_H} {Q : Option Value → am_H → Prop} {a0 : Nat} {x1 : Int32}  (k : (am_L 10 a0 h) ∧ (∀ h2 : am_H, h2 = sI h a0 0 0 → (EvM w mX10_within d [.int x1, .int 0, .int 8] h2 (fun r4 h3 => ∃ v5 : Int32, r4 = some (.int v5) ∧ ((v5 = 0 → (Q (some (.int ((-1)))) h3)) ∧ (¬ v5 = 0 → ((3 ≤ x1 → ((x1 = 3 → ((am_L 10 a0 h3) ∧ ((vp_in 0 (hN h3 (a0 + 2))) ∧ (Q (some (.int (hI h3 (a0 + 2) (Int32.toNatClampNeg 0)))) h3)))) ∧ (¬ x1 = 3 → ((x1 = 4 → ((am_L 10 a0 h3) ∧ ((vp_in 1 (hN h3 (a0 + 2))) ∧ (Q (some (.int (hI h3 (a0 + 2) (Int32.toNatClampNeg 1)))) h3)))) ∧ (¬ x1 = 4 → ((x1 = 5 → ((am_L 10 a0 h3) ∧ ((vp_in 2 (hN h3 (a0 + 2))) ∧ (Q (some (.int (hI h3 (a0 + 2) (Int32.toNatClampNeg 2)))) h3)))) ∧ (¬ x1 = 5 → ((x1 = 6 → ((am_L 10 a0 h3) ∧ (EvM w mX10_choosers d [.ref a0, .int 0] h3 (fun r14 h13 => ∃ v15 : Int32, r14 = some (.int v15) ∧ (Q (some (.int v15)) h13))))) ∧ (¬ x1 = 6 → ((x1 = 7 → ((am_L 10 a0 h3) ∧ ((vp_in 9 (hN h3 (a0 + 2))) ∧ (Q (some (.int (hI h3 (a0 + 2) (Int32.toNatClampNeg 9)))) h3)))) ∧ (¬ x1 = 7 → ((am_L 10 a0 h3) ∧ (Q (some (.int (hI h3 a0 1))) h3))))))))))))) ∧ (¬ 3 ≤ x1 → ((x1 = 0 → ((am_L 10 a0 h3) ∧ ((vp_in 7 (hN h3 (a0 + 2))) ∧ (Q (some (.int (hI h3 (a0 + 2) (Int32.toNatClampNeg 7)))) h3)))) ∧ (¬ x1 = 0 → ((x1 = 1 → ((am_L 10 a0 h3) ∧ ((vp_in 6 (hN h3 (a0 + 2))) ∧ (Q (some (.int (hI h3 (a0 + 2) (Int32.toNatClampNeg 6)))) h3)))) ∧ (¬ x1 = 1 → ((am_L 10 a0 h3) ∧ ((vp_in 8 (hN h3 (a0 + 2))) ∧ (Q (some (.int (hI h3 (a0 + 2) (Int32.toNatClampNeg 8)))) h3))))))))))))))) : EvM w mX10_count (d + 1) [.ref a0, .int x1] h Q := by
  show Ev w (am_Z w) mX10_count (d + 1) 0 [(0, .ref a0), (1, .int x1)] [] h Q
  refine Ev.aload_n 0 (am_dt kX10_count 0 rfl) rfl rfl ?_
  refine Ev.iconst (v := 0) (am_dt kX10_count 1 rfl) (by decide) ?_
  obtain ⟨f1, k⟩ := k
  refine Ev.putI' (ci := 10) (k := 0) (am_dt kX10_count 2 rfl) (by decide) (by decide) wd_583 rfl rfl rfl rfl f1.1 (fun h2 eh2 => ?_)
  have k := k h2 eh2
  have f1 := am_LsI eh2 f1
  refine Ev.iload_n 1 (am_dt kX10_count 3 rfl) rfl rfl ?_
  refine Ev.iconst (v := 0) (am_dt kX10_count 4 rfl) (by decide) ?_
  refine Ev.bipush (v := 8) (am_dt kX10_count 5 rfl) (by decide) ?_
  refine Ev.callS (v := mX10_within) (As := [.int x1, .int 0, .int 8]) (st := []) okX10_within wd_653 wd_652 (am_dt kX10_count 6 rfl) rfl rfl (Nat.le_of_ble_eq_true rfl) (Nat.le_of_ble_eq_true rfl) ?_
  refine EvM.mono k (fun r4 h3 k => ?_)
  obtain ⟨v5, rfl, k⟩ := k
  show Ev w _ _ _ 12 _ [.int v5] _ _
  refine Ev.if_ne (tgt := 17) (am_dt kX10_count 7 rfl) (by decide) (fun c => ?_) (fun c => ?_)
  · have k := k.2 c
    refine Ev.iload_n 1 (am_dt kX10_count 10 rfl) rfl rfl ?_
    refine Ev.iconst (v := 3) (am_dt kX10_count 11 rfl) (by decide) ?_
    refine Ev.icmp_ge (tgt := 59) (am_dt kX10_count 12 rfl) (by decide) (fun c => ?_) (fun c => ?_)
    · have k := k.1 c
      refine Ev.iload_n 1 (am_dt kX10_count 33 rfl) rfl rfl ?_
      refine Ev.iconst (v := 3) (am_dt kX10_count 34 rfl) (by decide) ?_
      refine Ev.icmp_ne (tgt := 73) (am_dt kX10_count 35 rfl) (by decide) (fun c => ?_) (fun c => ?_)
      · have k := k.2 c
        refine Ev.iload_n 1 (am_dt kX10_count 41 rfl) rfl rfl ?_
        refine Ev.iconst (v := 4) (am_dt kX10_count 42 rfl) (by decide) ?_
        refine Ev.icmp_ne (tgt := 87) (am_dt kX10_count 43 rfl) (by decide) (fun c => ?_) (fun c => ?_)
        · have k := k.2 c
          refine Ev.iload_n 1 (am_dt kX10_count 49 rfl) rfl rfl ?_
          refine Ev.iconst (v := 5) (am_dt kX10_count 50 rfl) (by decide) ?_
          refine Ev.icmp_ne (tgt := 101) (am_dt kX10_count 51 rfl) (by decide) (fun c => ?_) (fun c => ?_)
          · have k := k.2 c
            refine Ev.iload_n 1 (am_dt kX10_count 57 rfl) rfl rfl ?_
            refine Ev.bipush (v := 6) (am_dt kX10_count 58 rfl) (by decide) ?_
            refine Ev.icmp_ne (tgt := 115) (am_dt kX10_count 59 rfl) (by decide) (fun c => ?_) (fun c => ?_)
            · have k := k.2 c
              refine Ev.iload_n 1 (am_dt kX10_count 64 rfl) rfl rfl ?_
              refine Ev.bipush (v := 7) (am_dt kX10_count 65 rfl) (by decide) ?_
              refine Ev.icmp_ne (tgt := 131) (am_dt kX10_count 66 rfl) (by decide) (fun c => ?_) (fun c => ?_)
              · have k := k.2 c
                refine Ev.aload_n 0 (am_dt kX10_count 72 rfl) rfl rfl ?_
                obtain ⟨f18, k⟩ := k
                refine Ev.getI (ci := 10) (k := 1) (am_dt kX10_count 73 rfl) (by decide) (by decide) rfl wd_584 f18.1 ?_
                exact Ev.iret .int (am_dt kX10_count 74 rfl) rfl rfl k
              · have k := k.1 c
                refine Ev.aload_n 0 (am_dt kX10_count 67 rfl) rfl rfl ?_
                obtain ⟨f16, k⟩ := k
                refine Ev.getRe (ci := 10) (k := 10) (r := a0 + 2) (am_dt kX10_count 68 rfl) (by decide) (by decide) rfl wd_543 f16.1 (am_L.r f16 1 rfl) (by omega) ?_
                refine Ev.bipush (v := 9) (am_dt kX10_count 69 rfl) (by decide) ?_
                obtain ⟨f17, k⟩ := k
                refine Ev.iald (am_dt kX10_count 70 rfl) (am_L.s f16 1 rfl) f17 ?_
                refine Ev.goto (tgt := 135) (am_dt kX10_count 71 rfl) (by decide) ?_
                exact Ev.iret .int (am_dt kX10_count 74 rfl) rfl rfl k
            · have k := k.1 c
              refine Ev.aload_n 0 (am_dt kX10_count 60 rfl) rfl rfl ?_
              refine Ev.iconst (v := 0) (am_dt kX10_count 61 rfl) (by decide) ?_
              obtain ⟨f12, k⟩ := k
              refine Ev.callV (ci := 10) (v := mX10_choosers) (As := [.int 0]) (st := []) okX10_choosers wd_675 wd_676 wd_677 (am_dt kX10_count 62 rfl) (by decide) rfl rfl (Nat.le_of_ble_eq_true rfl) (Nat.le_of_ble_eq_true rfl) f12.1 ?_
              refine EvM.mono k (fun r14 h13 k => ?_)
              obtain ⟨v15, rfl, k⟩ := k
              show Ev w _ _ _ 112 _ [.int v15] _ _
              refine Ev.goto (tgt := 135) (am_dt kX10_count 63 rfl) (by decide) ?_
              exact Ev.iret .int (am_dt kX10_count 74 rfl) rfl rfl k
          · have k := k.1 c
            refine Ev.aload_n 0 (am_dt kX10_count 52 rfl) rfl rfl ?_
            obtain ⟨f10, k⟩ := k
            refine Ev.getRe (ci := 10) (k := 10) (r := a0 + 2) (am_dt kX10_count 53 rfl) (by decide) (by decide) rfl wd_543 f10.1 (am_L.r f10 1 rfl) (by omega) ?_
            refine Ev.iconst (v := 2) (am_dt kX10_count 54 rfl) (by decide) ?_
            obtain ⟨f11, k⟩ := k
            refine Ev.iald (am_dt kX10_count 55 rfl) (am_L.s f10 1 rfl) f11 ?_
            refine Ev.goto (tgt := 135) (am_dt kX10_count 56 rfl) (by decide) ?_
            exact Ev.iret .int (am_dt kX10_count 74 rfl) rfl rfl k
        · have k := k.1 c
          refine Ev.aload_n 0 (am_dt kX10_count 44 rfl) rfl rfl ?_
          obtain ⟨f8, k⟩ := k
          refine Ev.getRe (ci := 10) (k := 10) (r := a0 + 2) (am_dt kX10_count 45 rfl) (by decide) (by decide) rfl wd_543 f8.1 (am_L.r f8 1 rfl) (by omega) ?_
          refine Ev.iconst (v := 1) (am_dt kX10_count 46 rfl) (by decide) ?_
          obtain ⟨f9, k⟩ := k
          refine Ev.iald (am_dt kX10_count 47 rfl) (am_L.s f8 1 rfl) f9 ?_
          refine Ev.goto (tgt := 135) (am_dt kX10_count 48 rfl) (by decide) ?_
          exact Ev.iret .int (am_dt kX10_count 74 rfl) rfl rfl k
      · have k := k.1 c
        refine Ev.aload_n 0 (am_dt kX10_count 36 rfl) rfl rfl ?_
        obtain ⟨f6, k⟩ := k
        refine Ev.getRe (ci := 10) (k := 10) (r := a0 + 2) (am_dt kX10_count 37 rfl) (by decide) (by decide) rfl wd_543 f6.1 (am_L.r f6 1 rfl) (by omega) ?_
        refine Ev.iconst (v := 0) (am_dt kX10_count 38 rfl) (by decide) ?_
        obtain ⟨f7, k⟩ := k
        refine Ev.iald (am_dt kX10_count 39 rfl) (am_L.s f6 1 rfl) f7 ?_
        refine Ev.goto (tgt := 135) (am_dt kX10_count 40 rfl) (by decide) ?_
        exact Ev.iret .int (am_dt kX10_count 74 rfl) rfl rfl k
    · have k := k.2 c
      refine Ev.iload_n 1 (am_dt kX10_count 13 rfl) rfl rfl ?_
      refine Ev.if_ne (tgt := 36) (am_dt kX10_count 14 rfl) (by decide) (fun c => ?_) (fun c => ?_)
      · have k := k.2 c
        refine Ev.iload_n 1 (am_dt kX10_count 20 rfl) rfl rfl ?_
        refine Ev.iconst (v := 1) (am_dt kX10_count 21 rfl) (by decide) ?_
        refine Ev.icmp_ne (tgt := 51) (am_dt kX10_count 22 rfl) (by decide) (fun c => ?_) (fun c => ?_)
        · have k := k.2 c
          refine Ev.aload_n 0 (am_dt kX10_count 28 rfl) rfl rfl ?_
          obtain ⟨f23, k⟩ := k
          refine Ev.getRe (ci := 10) (k := 10) (r := a0 + 2) (am_dt kX10_count 29 rfl) (by decide) (by decide) rfl wd_543 f23.1 (am_L.r f23 1 rfl) (by omega) ?_
          refine Ev.bipush (v := 8) (am_dt kX10_count 30 rfl) (by decide) ?_
          obtain ⟨f24, k⟩ := k
          refine Ev.iald (am_dt kX10_count 31 rfl) (am_L.s f23 1 rfl) f24 ?_
          exact Ev.iret .int (am_dt kX10_count 32 rfl) rfl rfl k
        · have k := k.1 c
          refine Ev.aload_n 0 (am_dt kX10_count 23 rfl) rfl rfl ?_
          obtain ⟨f21, k⟩ := k
          refine Ev.getRe (ci := 10) (k := 10) (r := a0 + 2) (am_dt kX10_count 24 rfl) (by decide) (by decide) rfl wd_543 f21.1 (am_L.r f21 1 rfl) (by omega) ?_
          refine Ev.bipush (v := 6) (am_dt kX10_count 25 rfl) (by decide) ?_
          obtain ⟨f22, k⟩ := k
          refine Ev.iald (am_dt kX10_count 26 rfl) (am_L.s f21 1 rfl) f22 ?_
          refine Ev.goto (tgt := 58) (am_dt kX10_count 27 rfl) (by decide) ?_
          exact Ev.iret .int (am_dt kX10_count 32 rfl) rfl rfl k
      · have k := k.1 c
        refine Ev.aload_n 0 (am_dt kX10_count 15 rfl) rfl rfl ?_
        obtain ⟨f19, k⟩ := k
        refine Ev.getRe (ci := 10) (k := 10) (r := a0 + 2) (am_dt kX10_count 16 rfl) (by decide) (by decide) rfl wd_543 f19.1 (am_L.r f19 1 rfl) (by omega) ?_
        refine Ev.bipush (v := 7) (am_dt kX10_count 17 rfl) (by decide) ?_
        obtain ⟨f20, k⟩ := k
        refine Ev.iald (am_dt kX10_count 18 rfl) (am_L.s f19 1 rfl) f20 ?_
        refine Ev.goto (tgt := 58) (am_dt kX10_count 19 rfl) (by decide) ?_
        exact Ev.iret .int (am_dt kX10_count 32 rfl) rfl rfl k
  · have k := k.1 c
    refine Ev.iconst (v := (-1)) (am_dt kX10_count 8 rfl) (by decide) ?_
    exact Ev.iret .int (am_dt kX10_count 9 rfl) rfl rfl k
