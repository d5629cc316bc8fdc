set_option maxRecDepth 20000 in
set_option maxHeartbeats 2000000 in
theorem bX10_asks_0 {w : am_W} {d : Nat} {h : am_H} {Q : Option Value → am_H → Prop} {a0 : Nat} {x1 : Int32}  (k : (am_L 10 a0 h) ∧ (∀ h2 : am_H, h2 = sI h a0 0 0 → (Ev w (am_Z w) mX10_asks (d + 1) 12 [(0, .ref a0), (1, .int x1), (2, .int ((-1))), (3, .int 0), (4, .int 0)] [] h2 Q))) : EvM w mX10_asks (d + 1) [.ref a0, .int x1] h Q := by
  show Ev w (am_Z w) mX10_asks (d + 1) 0 [(0, .ref a0), (1, .int x1)] [] h Q
  refine Ev.aload_n 0 (am_dt kX10_asks 0 rfl) rfl rfl ?_
  refine Ev.iconst (v := 0) (am_dt kX10_asks 1 rfl) (by decide) ?_
  obtain ⟨f1, k⟩ := k
  refine Ev.putI' (ci := 10) (k := 0) (am_dt kX10_asks 2 rfl) (by decide) (by decide) wd_583 rfl rfl rfl rfl f1.1 (fun h2 eh2 => ?_)
  have k := k h2 eh2
  have f1 := am_LsI eh2 f1
  refine Ev.iconst (v := (-1)) (am_dt kX10_asks 3 rfl) (by decide) ?_
  refine Ev.istore_n (lv' := [(2, .int ((-1))), (0, .ref a0), (1, .int x1)]) (am_dt kX10_asks 4 rfl) rfl (by decide) rfl ?_
  refine Ev.iconst (v := 0) (am_dt kX10_asks 5 rfl) (by decide) ?_
  refine Ev.istore_n (lv' := [(3, .int 0), (2, .int ((-1))), (0, .ref a0), (1, .int x1)]) (am_dt kX10_asks 6 rfl) rfl (by decide) rfl ?_
  refine Ev.iconst (v := 0) (am_dt kX10_asks 7 rfl) (by decide) ?_
  refine Ev.istore (lv' := [(4, .int 0), (3, .int 0), (2, .int ((-1))), (0, .ref a0), (1, .int x1)]) (am_dt kX10_asks 8 rfl) (by decide) rfl ?_
  exact Ev.sub [3, 4, 2, 1, 0] rfl k
set_option maxRecDepth 20000 in
set_option maxHeartbeats 2000000 in
theorem bX10_asks_12 {w : am_W} {d : Nat} {h : am_H} {Q : Option Value → am_H → Prop} {a0 : Nat} {x1 : Int32} {x2 : Int32} {x3 : Int32} {x4 : Int32}  (k : (am_L 10 a0 h) ∧ ((vp_in 7 (hN h (a0 + 2))) ∧ (((hI h (a0 + 2) (Int32.toNatClampNeg 7)) ≤ x4 → (Q (some (.int x2)) h)) ∧ (¬ (hI h (a0 + 2) (Int32.toNatClampNeg 7)) ≤ x4 → (EvM w mX10_canTurn d [.ref a0, .int x4, .int x1] h (fun r4 h3 => ∃ v5 : Int32, r4 = some (.int v5) ∧ ((v5 = 0 → (Ev w (am_Z w) mX10_asks (d + 1) 12 [(0, .ref a0), (1, .int x1), (2, .int x2), (3, .int x3), (4, .int (x4 + 1))] [] h3 Q)) ∧ (¬ v5 = 0 → ((am_L 10 a0 h3) ∧ (EvM w mX10_turns d [.ref a0, .int x4, .int x1] h3 (fun r8 h7 => ∃ v9 : Int32, r8 = some (.int v9) ∧ ((x2 < 0 → (Ev w (am_Z w) mX10_asks (d + 1) 12 [(0, .ref a0), (1, .int x1), (2, .int x4), (3, .int v9), (4, .int (x4 + 1))] [] h7 Q)) ∧ (¬ x2 < 0 → ((x3 < v9 → (Ev w (am_Z w) mX10_asks (d + 1) 12 [(0, .ref a0), (1, .int x1), (2, .int x4), (3, .int v9), (4, .int (x4 + 1))] [] h7 Q)) ∧ (¬ x3 < v9 → (Ev w (am_Z w) mX10_asks (d + 1) 12 [(0, .ref a0), (1, .int x1), (2, .int x2), (3, .int x3), (4, .int (x4 + 1))] [] h7 Q)))))))))))))))) : Ev w (am_Z w) mX10_asks (d + 1) 12 [(0, .ref a0), (1, .int x1), (2, .int x2), (3, .int x3), (4, .int x4)] [] h Q := by
  refine Ev.iload 4 (am_dt kX10_asks 9 rfl) rfl ?_
  refine Ev.aload_n 0 (am_dt kX10_asks 10 rfl) rfl rfl ?_
  obtain ⟨f1, k⟩ := k
  refine Ev.getRe (ci := 10) (k := 10) (r := a0 + 2) (am_dt kX10_asks 11 rfl) (by decide) (by decide) rfl wd_543 f1.1 (am_L.r f1 1 rfl) (by omega) ?_
  refine Ev.bipush (v := 7) (am_dt kX10_asks 12 rfl) (by decide) ?_
  obtain ⟨f2, k⟩ := k
  refine Ev.iald (am_dt kX10_asks 13 rfl) (am_L.s f1 1 rfl) f2 ?_
  refine Ev.icmp_ge (tgt := 71) (am_dt kX10_asks 14 rfl) (by decide) (fun c => ?_) (fun c => ?_)
  · have k := k.1 c
    refine Ev.iload_n 2 (am_dt kX10_asks 38 rfl) rfl rfl ?_
    exact Ev.iret .int (am_dt kX10_asks 39 rfl) rfl rfl k
  · have k := k.2 c
    refine Ev.aload_n 0 (am_dt kX10_asks 15 rfl) rfl rfl ?_
    refine Ev.iload 4 (am_dt kX10_asks 16 rfl) rfl ?_
    refine Ev.iload_n 1 (am_dt kX10_asks 17 rfl) rfl rfl ?_
    refine Ev.callV (ci := 10) (v := mX10_canTurn) (As := [.int x4, .int x1]) (st := []) okX10_canTurn wd_756 wd_757 wd_758 (am_dt kX10_asks 18 rfl) (by decide) rfl rfl (Nat.le_of_ble_eq_true rfl) (Nat.le_of_ble_eq_true rfl) f1.1 ?_
    refine EvM.mono k (fun r4 h3 k => ?_)
    obtain ⟨v5, rfl, k⟩ := k
    show Ev w _ _ _ 31 _ [.int v5] _ _
    refine Ev.if_ne (tgt := 37) (am_dt kX10_asks 19 rfl) (by decide) (fun c => ?_) (fun c => ?_)
    · have k := k.2 c
      refine Ev.aload_n 0 (am_dt kX10_asks 21 rfl) rfl rfl ?_
      refine Ev.iload 4 (am_dt kX10_asks 22 rfl) rfl ?_
      refine Ev.iload_n 1 (am_dt kX10_asks 23 rfl) rfl rfl ?_
      obtain ⟨f6, k⟩ := k
      refine Ev.callV (ci := 10) (v := mX10_turns) (As := [.int x4, .int x1]) (st := []) okX10_turns wd_759 wd_760 wd_761 (am_dt kX10_asks 24 rfl) (by decide) rfl rfl (Nat.le_of_ble_eq_true rfl) (Nat.le_of_ble_eq_true rfl) f6.1 ?_
      refine EvM.mono k (fun r8 h7 k => ?_)
      obtain ⟨v9, rfl, k⟩ := k
      show Ev w _ _ _ 44 _ [.int v9] _ _
      refine Ev.istore (lv' := [(5, .int v9), (0, .ref a0), (1, .int x1), (2, .int x2), (3, .int x3), (4, .int x4)]) (am_dt kX10_asks 25 rfl) (by decide) rfl ?_
      refine Ev.iload_n 3 (am_dt kX10_asks 26 rfl) rfl rfl ?_
      refine Ev.if_lt (tgt := 59) (am_dt kX10_asks 27 rfl) (by decide) (fun c => ?_) (fun c => ?_)
      · have k := k.1 c
        refine Ev.iload 5 (am_dt kX10_asks 32 rfl) rfl ?_
        refine Ev.istore_n (lv' := [(2, .int x4), (5, .int v9), (0, .ref a0), (1, .int x1), (3, .int x3), (4, .int x4)]) (am_dt kX10_asks 33 rfl) rfl (by decide) rfl ?_
        refine Ev.iload 1 (am_dt kX10_asks 34 rfl) rfl ?_
        refine Ev.istore_n (lv' := [(3, .int v9), (2, .int x4), (5, .int v9), (0, .ref a0), (1, .int x1), (4, .int x4)]) (am_dt kX10_asks 35 rfl) rfl (by decide) rfl ?_
        refine Ev.iinc (v := x4 + 1) (lv' := [(4, .int (x4 + 1)), (3, .int v9), (2, .int x4), (5, .int v9), (0, .ref a0), (1, .int x1)]) 5 (am_dt kX10_asks 36 rfl) rfl rfl (by decide) rfl ?_
        refine Ev.goto (tgt := 12) (am_dt kX10_asks 37 rfl) (by decide) ?_
        exact Ev.sub [4, 5, 2, 1, 0] rfl k
      · have k := k.2 c
        refine Ev.iload 0 (am_dt kX10_asks 28 rfl) rfl ?_
        refine Ev.iload_n 4 (am_dt kX10_asks 29 rfl) rfl rfl ?_
        refine Ev.icmp_gt (tgt := 59) (am_dt kX10_asks 30 rfl) (by decide) (fun c => ?_) (fun c => ?_)
        · have k := k.1 c
          refine Ev.iload 5 (am_dt kX10_asks 32 rfl) rfl ?_
          refine Ev.istore_n (lv' := [(2, .int x4), (5, .int v9), (0, .ref a0), (1, .int x1), (3, .int x3), (4, .int x4)]) (am_dt kX10_asks 33 rfl) rfl (by decide) rfl ?_
          refine Ev.iload 1 (am_dt kX10_asks 34 rfl) rfl ?_
          refine Ev.istore_n (lv' := [(3, .int v9), (2, .int x4), (5, .int v9), (0, .ref a0), (1, .int x1), (4, .int x4)]) (am_dt kX10_asks 35 rfl) rfl (by decide) rfl ?_
          refine Ev.iinc (v := x4 + 1) (lv' := [(4, .int (x4 + 1)), (3, .int v9), (2, .int x4), (5, .int v9), (0, .ref a0), (1, .int x1)]) 5 (am_dt kX10_asks 36 rfl) rfl rfl (by decide) rfl ?_
          refine Ev.goto (tgt := 12) (am_dt kX10_asks 37 rfl) (by decide) ?_
          exact Ev.sub [4, 5, 2, 1, 0] rfl k
        · have k := k.2 c
          refine Ev.goto (tgt := 65) (am_dt kX10_asks 31 rfl) (by decide) ?_
          refine Ev.iinc (v := x4 + 1) (lv' := [(4, .int (x4 + 1)), (5, .int v9), (0, .ref a0), (1, .int x1), (2, .int x2), (3, .int x3)]) 5 (am_dt kX10_asks 36 rfl) rfl rfl (by decide) rfl ?_
          refine Ev.goto (tgt := 12) (am_dt kX10_asks 37 rfl) (by decide) ?_
          exact Ev.sub [2, 3, 4, 5, 0] rfl k
    · have k := k.1 c
      refine Ev.goto (tgt := 65) (am_dt kX10_asks 20 rfl) (by decide) ?_
      refine Ev.iinc (v := x4 + 1) (lv' := [(4, .int (x4 + 1)), (0, .ref a0), (1, .int x1), (2, .int x2), (3, .int x3)]) 4 (am_dt kX10_asks 36 rfl) rfl rfl (by decide) rfl ?_
      refine Ev.goto (tgt := 12) (am_dt kX10_asks 37 rfl) (by decide) ?_
      exact Ev.sub [1, 2, 3, 4, 0] rfl k
set_option maxRecDepth 20000 in
set_option maxHeartbeats 2000000 in
theorem bX10_choices_0 {w : am_W} {d : Nat} {h : am_H} {Q : Option Value → am_H → Prop} {a0 : Nat}  (k : (am_L 10 a0 h) ∧ (EvM w mX10_choosers d [.ref a0, .int 0] h (fun r3 h2 => ∃ v4 : Int32, r3 = some (.int v4) ∧ (Ev w (am_Z w) mX10_choices (d + 1) 10 [(0, .ref a0), (1, .int ((1 : Int32) <<< (v4 &&& 31))), (2, .int 0)] [] h2 Q)))) : EvM w mX10_choices (d + 1) [.ref a0] h Q := by
  show Ev w (am_Z w) mX10_choices (d + 1) 0 [(0, .ref a0)] [] h Q
  refine Ev.iconst (v := 1) (am_dt kX10_choices 0 rfl) (by decide) ?_
  refine Ev.aload_n 0 (am_dt kX10_choices 1 rfl) rfl rfl ?_
  refine Ev.iconst (v := 0) (am_dt kX10_choices 2 rfl) (by decide) ?_
  obtain ⟨f1, k⟩ := k
  refine Ev.callV (ci := 10) (v := mX10_choosers) (As := [.int 0]) (st := [.int 1]) okX10_choosers wd_675 wd_676 wd_677 (am_dt kX10_choices 3 rfl) (by decide) rfl rfl (Nat.le_of_ble_eq_true rfl) (Nat.le_of_ble_eq_true rfl) f1.1 ?_
  refine EvM.mono k (fun r3 h2 k => ?_)
  obtain ⟨v4, rfl, k⟩ := k
  show Ev w _ _ _ 6 _ [.int v4, .int 1] _ _
  refine Ev.ishl (am_dt kX10_choices 4 rfl) ?_
  refine Ev.istore_n (lv' := [(1, .int ((1 : Int32) <<< (v4 &&& 31))), (0, .ref a0)]) (am_dt kX10_choices 5 rfl) rfl (by decide) rfl ?_
  refine Ev.iconst (v := 0) (am_dt kX10_choices 6 rfl) (by decide) ?_
  refine Ev.istore_n (lv' := [(2, .int 0), (1, .int ((1 : Int32) <<< (v4 &&& 31))), (0, .ref a0)]) (am_dt kX10_choices 7 rfl) rfl (by decide) rfl ?_
  exact Ev.sub [2, 1, 0] rfl k
set_option maxRecDepth 20000 in
set_option maxHeartbeats 2000000 in
theorem bX10_choices_10 {w : am_W} {d : Nat} {h : am_H} {Q : Option Value → am_H → Prop} {a0 : Nat} {x1 : Int32} {x2 : Int32}  (k : (x1 ≤ x2 → (Q (some (.int x1)) h)) ∧ (¬ x1 ≤ x2 → ((am_L 10 a0 h) ∧ (EvM w mX10_day d [.ref a0, .int x2] h (fun r3 h2 => r3 = none ∧ ((am_L 10 a0 h2) ∧ (EvM w mX10_costAll d [.ref a0, .int ((-1))] h2 (fun r6 h5 => ∃ v7 : Int32, r6 = some (.int v7) ∧ ((hK h5 (a0 + 35) = 12) ∧ ((vp_in x2 (hN h5 (a0 + 35))) ∧ (∀ h10 : am_H, h10 = sI h5 (a0 + 35) (Int32.toNatClampNeg x2) v7 → (Ev w (am_Z w) mX10_choices (d + 1) 36 [(0, .ref a0), (1, .int x1), (2, .int x2), (3, .int 0), (4, .int 0)] [] h10 Q)))))))))))) : Ev w (am_Z w) mX10_choices (d + 1) 10 [(0, .ref a0), (1, .int x1), (2, .int x2)] [] h Q := by
  refine Ev.iload_n 2 (am_dt kX10_choices 8 rfl) rfl rfl ?_
  refine Ev.iload_n 1 (am_dt kX10_choices 9 rfl) rfl rfl ?_
  refine Ev.icmp_ge (tgt := 99) (am_dt kX10_choices 10 rfl) (by decide) (fun c => ?_) (fun c => ?_)
  · have k := k.1 c
    refine Ev.iload_n 1 (am_dt kX10_choices 57 rfl) rfl rfl ?_
    exact Ev.iret .int (am_dt kX10_choices 58 rfl) rfl rfl k
  · have k := k.2 c
    refine Ev.aload_n 0 (am_dt kX10_choices 11 rfl) rfl rfl ?_
    refine Ev.iload_n 2 (am_dt kX10_choices 12 rfl) rfl rfl ?_
    obtain ⟨f1, k⟩ := k
    refine Ev.callV (ci := 10) (v := mX10_day) (As := [.int x2]) (st := []) okX10_day wd_742 wd_743 wd_744 (am_dt kX10_choices 13 rfl) (by decide) rfl rfl (Nat.le_of_ble_eq_true rfl) (Nat.le_of_ble_eq_true rfl) f1.1 ?_
    refine EvM.mono k (fun r3 h2 k => ?_)
    obtain ⟨rfl, k⟩ := k
    show Ev w _ _ _ 20 _ [] _ _
    refine Ev.aload_n 0 (am_dt kX10_choices 14 rfl) rfl rfl ?_
    obtain ⟨f4, k⟩ := k
    refine Ev.getRe (ci := 10) (k := 51) (r := a0 + 35) (am_dt kX10_choices 15 rfl) (by decide) (by decide) rfl wd_576 f4.1 (am_L.r f4 34 rfl) (by omega) ?_
    refine Ev.iload_n 2 (am_dt kX10_choices 16 rfl) rfl rfl ?_
    refine Ev.aload_n 0 (am_dt kX10_choices 17 rfl) rfl rfl ?_
    refine Ev.iconst (v := (-1)) (am_dt kX10_choices 18 rfl) (by decide) ?_
    refine Ev.callV (ci := 10) (v := mX10_costAll) (As := [.int ((-1))]) (st := [.int x2, .ref (a0 + 35)]) okX10_costAll wd_745 wd_746 wd_747 (am_dt kX10_choices 19 rfl) (by decide) rfl rfl (Nat.le_of_ble_eq_true rfl) (Nat.le_of_ble_eq_true rfl) f4.1 ?_
    refine EvM.mono k (fun r6 h5 k => ?_)
    obtain ⟨v7, rfl, k⟩ := k
    show Ev w _ _ _ 30 _ [.int v7, .int x2, .ref (a0 + 35)] _ _
    obtain ⟨f8, k⟩ := k
    obtain ⟨f9, k⟩ := k
    refine Ev.iast' (am_dt kX10_choices 20 rfl) f8 f9 (fun h10 eh10 => ?_)
    have k := k h10 eh10
    have f8 := kI eh10 f8
    refine Ev.iconst (v := 0) (am_dt kX10_choices 21 rfl) (by decide) ?_
    refine Ev.istore_n (lv' := [(3, .int 0), (0, .ref a0), (1, .int x1), (2, .int x2)]) (am_dt kX10_choices 22 rfl) rfl (by decide) rfl ?_
    refine Ev.iconst (v := 0) (am_dt kX10_choices 23 rfl) (by decide) ?_
    refine Ev.istore (lv' := [(4, .int 0), (3, .int 0), (0, .ref a0), (1, .int x1), (2, .int x2)]) (am_dt kX10_choices 24 rfl) (by decide) rfl ?_
    exact Ev.sub [2, 3, 4, 1, 0] rfl k
set_option maxRecDepth 20000 in
set_option maxHeartbeats 2000000 in
theorem bX10_choices_36 {w : am_W} {d : Nat} {h : am_H} {Q : Option Value → am_H → Prop} {a0 : Nat} {x1 : Int32} {x2 : Int32} {x3 : Int32} {x4 : Int32}  (k : (am_L 10 a0 h) ∧ (((hI h a0 36) ≤ x4 → (Ev w (am_Z w) mX10_choices (d + 1) 10 [(0, .ref a0), (1, .int x1), (2, .int (x2 + 1))] [] h Q)) ∧ (¬ (hI h a0 36) ≤ x4 → ((vp_in x4 (hN h (a0 + 11))) ∧ (((hI h (a0 + 11) (Int32.toNatClampNeg x4)) = 5 → ((vp_in x4 (hN h (a0 + 28))) ∧ (EvM w mX10_waitOf d [.ref a0, .int x4] h (fun r5 h4 => ∃ v6 : Int32, r5 = some (.int v6) ∧ ((hK h4 (a0 + 36) = 12) ∧ ((vp_in ((8 * x2) + x3) (hN h4 (a0 + 36))) ∧ (∀ h9 : am_H, h9 = sI h4 (a0 + 36) (Int32.toNatClampNeg ((8 * x2) + x3)) ((hI h (a0 + 28) (Int32.toNatClampNeg x4)) * v6) → (Ev w (am_Z w) mX10_choices (d + 1) 36 [(0, .ref a0), (1, .int x1), (2, .int x2), (3, .int (x3 + 1)), (4, .int (x4 + 1))] [] h9 Q)))))))) ∧ (¬ (hI h (a0 + 11) (Int32.toNatClampNeg x4)) = 5 → (Ev w (am_Z w) mX10_choices (d + 1) 36 [(0, .ref a0), (1, .int x1), (2, .int x2), (3, .int x3), (4, .int (x4 + 1))] [] h Q))))))) : Ev w (am_Z w) mX10_choices (d + 1) 36 [(0, .ref a0), (1, .int x1), (2, .int x2), (3, .int x3), (4, .int x4)] [] h Q := by
  refine Ev.iload 4 (am_dt kX10_choices 25 rfl) rfl ?_
  refine Ev.aload_n 0 (am_dt kX10_choices 26 rfl) rfl rfl ?_
  obtain ⟨f1, k⟩ := k
  refine Ev.getI (ci := 10) (k := 36) (am_dt kX10_choices 27 rfl) (by decide) (by decide) rfl wd_703 f1.1 ?_
  refine Ev.icmp_ge (tgt := 93) (am_dt kX10_choices 28 rfl) (by decide) (fun c => ?_) (fun c => ?_)
  · have k := k.1 c
    refine Ev.iinc (v := x2 + 1) (lv' := [(2, .int (x2 + 1)), (0, .ref a0), (1, .int x1), (3, .int x3), (4, .int x4)]) 2 (am_dt kX10_choices 55 rfl) rfl rfl (by decide) rfl ?_
    refine Ev.goto (tgt := 10) (am_dt kX10_choices 56 rfl) (by decide) ?_
    exact Ev.sub [1, 2, 0] rfl k
  · have k := k.2 c
    refine Ev.aload_n 0 (am_dt kX10_choices 29 rfl) rfl rfl ?_
    refine Ev.getRe (ci := 10) (k := 19) (r := a0 + 11) (am_dt kX10_choices 30 rfl) (by decide) (by decide) rfl wd_552 f1.1 (am_L.r f1 10 rfl) (by omega) ?_
    refine Ev.iload 4 (am_dt kX10_choices 31 rfl) rfl ?_
    obtain ⟨f2, k⟩ := k
    refine Ev.iald (am_dt kX10_choices 32 rfl) (am_L.s f1 10 rfl) f2 ?_
    refine Ev.iconst (v := 5) (am_dt kX10_choices 33 rfl) (by decide) ?_
    refine Ev.icmp_eq (tgt := 59) (am_dt kX10_choices 34 rfl) (by decide) (fun c => ?_) (fun c => ?_)
    · have k := k.1 c
      refine Ev.aload_n 0 (am_dt kX10_choices 36 rfl) rfl rfl ?_
      refine Ev.getRe (ci := 10) (k := 52) (r := a0 + 36) (am_dt kX10_choices 37 rfl) (by decide) (by decide) rfl wd_577 f1.1 (am_L.r f1 35 rfl) (by omega) ?_
      refine Ev.bipush (v := 8) (am_dt kX10_choices 38 rfl) (by decide) ?_
      refine Ev.iload_n 2 (am_dt kX10_choices 39 rfl) rfl rfl ?_
      refine Ev.imul (am_dt kX10_choices 40 rfl) ?_
      refine Ev.iload_n 3 (am_dt kX10_choices 41 rfl) rfl rfl ?_
      refine Ev.iadd (am_dt kX10_choices 42 rfl) ?_
      refine Ev.aload_n 0 (am_dt kX10_choices 43 rfl) rfl rfl ?_
      refine Ev.getRe (ci := 10) (k := 40) (r := a0 + 28) (am_dt kX10_choices 44 rfl) (by decide) (by decide) rfl wd_569 f1.1 (am_L.r f1 27 rfl) (by omega) ?_
      refine Ev.iload 4 (am_dt kX10_choices 45 rfl) rfl ?_
      obtain ⟨f3, k⟩ := k
      refine Ev.iald (am_dt kX10_choices 46 rfl) (am_L.s f1 27 rfl) f3 ?_
      refine Ev.aload_n 0 (am_dt kX10_choices 47 rfl) rfl rfl ?_
      refine Ev.iload 4 (am_dt kX10_choices 48 rfl) rfl ?_
      refine Ev.callV (ci := 10) (v := mX10_waitOf) (As := [.int x4]) (st := [.int (hI h (a0 + 28) (Int32.toNatClampNeg x4)), .int ((8 * x2) + x3), .ref (a0 + 36)]) okX10_waitOf wd_739 wd_740 wd_741 (am_dt kX10_choices 49 rfl) (by decide) rfl rfl (Nat.le_of_ble_eq_true rfl) (Nat.le_of_ble_eq_true rfl) f1.1 ?_
      refine EvM.mono k (fun r5 h4 k => ?_)
      obtain ⟨v6, rfl, k⟩ := k
      show Ev w _ _ _ 82 _ [.int v6, .int (hI h (a0 + 28) (Int32.toNatClampNeg x4)), .int ((8 * x2) + x3), .ref (a0 + 36)] _ _
      refine Ev.imul (am_dt kX10_choices 50 rfl) ?_
      obtain ⟨f7, k⟩ := k
      obtain ⟨f8, k⟩ := k
      refine Ev.iast' (am_dt kX10_choices 51 rfl) f7 f8 (fun h9 eh9 => ?_)
      have k := k h9 eh9
      have f7 := kI eh9 f7
      refine Ev.iinc (v := x3 + 1) (lv' := [(3, .int (x3 + 1)), (0, .ref a0), (1, .int x1), (2, .int x2), (4, .int x4)]) 3 (am_dt kX10_choices 52 rfl) rfl rfl (by decide) rfl ?_
      refine Ev.iinc (v := x4 + 1) (lv' := [(4, .int (x4 + 1)), (3, .int (x3 + 1)), (0, .ref a0), (1, .int x1), (2, .int x2)]) 4 (am_dt kX10_choices 53 rfl) rfl rfl (by decide) rfl ?_
      refine Ev.goto (tgt := 36) (am_dt kX10_choices 54 rfl) (by decide) ?_
      exact Ev.sub [2, 3, 4, 1, 0] rfl k
    · have k := k.2 c
      refine Ev.goto (tgt := 87) (am_dt kX10_choices 35 rfl) (by decide) ?_
      refine Ev.iinc (v := x4 + 1) (lv' := [(4, .int (x4 + 1)), (0, .ref a0), (1, .int x1), (2, .int x2), (3, .int x3)]) 4 (am_dt kX10_choices 53 rfl) rfl rfl (by decide) rfl ?_
      refine Ev.goto (tgt := 36) (am_dt kX10_choices 54 rfl) (by decide) ?_
      exact Ev.sub [1, 2, 3, 4, 0] rfl k
set_option maxRecDepth 20000 in
set_option maxHeartbeats 2000000 in
theorem bX10_choice_0 {w : am_W} {d : Nat} {h : am_H} {Q : Option Value → am_H → Prop} {a0 : Nat} {x1 : Int32}  (k : (am_L 10 a0 h) ∧ (∀ h2 : am_H, h2 = sI h a0 0 0 → (EvM w mX10_within d [.int x1, .int 0, .int 1] h2 (fun r4 h3 => ∃ v5 : Int32, r4 = some (.int v5) ∧ ((v5 = 0 → (Q (some (.int ((-1)))) h3)) ∧ (¬ v5 = 0 → ((am_L 10 a0 h3) ∧ (EvM w mX10_choices d [.ref a0] h3 (fun r8 h7 => ∃ v9 : Int32, r8 = some (.int v9) ∧ (Ev w (am_Z w) mX10_choice (d + 1) 26 [(0, .ref a0), (1, .int x1), (2, .int v9), (3, .int 0), (4, .int 1)] [] h7 Q)))))))))) : EvM w mX10_choice (d + 1) [.ref a0, .int x1] h Q := by
  show Ev w (am_Z w) mX10_choice (d + 1) 0 [(0, .ref a0), (1, .int x1)] [] h Q
  refine Ev.aload_n 0 (am_dt kX10_choice 0 rfl) rfl rfl ?_
  refine Ev.iconst (v := 0) (am_dt kX10_choice 1 rfl) (by decide) ?_
  obtain ⟨f1, k⟩ := k
  refine Ev.putI' (ci := 10) (k := 0) (am_dt kX10_choice 2 rfl) (by decide) (by decide) wd_583 rfl rfl rfl rfl f1.1 (fun h2 eh2 => ?_)
  have k := k h2 eh2
  have f1 := am_LsI eh2 f1
  refine Ev.iload_n 1 (am_dt kX10_choice 3 rfl) rfl rfl ?_
  refine Ev.iconst (v := 0) (am_dt kX10_choice 4 rfl) (by decide) ?_
  refine Ev.iconst (v := 1) (am_dt kX10_choice 5 rfl) (by decide) ?_
  refine Ev.callS (v := mX10_within) (As := [.int x1, .int 0, .int 1]) (st := []) okX10_within wd_653 wd_652 (am_dt kX10_choice 6 rfl) rfl rfl (Nat.le_of_ble_eq_true rfl) (Nat.le_of_ble_eq_true rfl) ?_
  refine EvM.mono k (fun r4 h3 k => ?_)
  obtain ⟨v5, rfl, k⟩ := k
  show Ev w _ _ _ 11 _ [.int v5] _ _
  refine Ev.if_ne (tgt := 16) (am_dt kX10_choice 7 rfl) (by decide) (fun c => ?_) (fun c => ?_)
  · have k := k.2 c
    refine Ev.aload_n 0 (am_dt kX10_choice 10 rfl) rfl rfl ?_
    obtain ⟨f6, k⟩ := k
    refine Ev.callV (ci := 10) (v := mX10_choices) (As := []) (st := []) okX10_choices wd_762 wd_763 wd_764 (am_dt kX10_choice 11 rfl) (by decide) rfl rfl (Nat.le_of_ble_eq_true rfl) (Nat.le_of_ble_eq_true rfl) f6.1 ?_
    refine EvM.mono k (fun r8 h7 k => ?_)
    obtain ⟨v9, rfl, k⟩ := k
    show Ev w _ _ _ 20 _ [.int v9] _ _
    refine Ev.istore_n (lv' := [(2, .int v9), (0, .ref a0), (1, .int x1)]) (am_dt kX10_choice 12 rfl) rfl (by decide) rfl ?_
    refine Ev.iconst (v := 0) (am_dt kX10_choice 13 rfl) (by decide) ?_
    refine Ev.istore_n (lv' := [(3, .int 0), (2, .int v9), (0, .ref a0), (1, .int x1)]) (am_dt kX10_choice 14 rfl) rfl (by decide) rfl ?_
    refine Ev.iconst (v := 1) (am_dt kX10_choice 15 rfl) (by decide) ?_
    refine Ev.istore (lv' := [(4, .int 1), (3, .int 0), (2, .int v9), (0, .ref a0), (1, .int x1)]) (am_dt kX10_choice 16 rfl) (by decide) rfl ?_
    exact Ev.sub [3, 4, 2, 1, 0] rfl k
  · have k := k.1 c
    refine Ev.iconst (v := (-1)) (am_dt kX10_choice 8 rfl) (by decide) ?_
    exact Ev.iret .int (am_dt kX10_choice 9 rfl) rfl rfl k
set_option maxRecDepth 20000 in
set_option maxHeartbeats 2000000 in
theorem bX10_choice_26 {w : am_W} {d : Nat} {h : am_H} {Q : Option Value → am_H → Prop} {a0 : Nat} {x1 : Int32} {x2 : Int32} {x3 : Int32} {x4 : Int32}  (k : (x2 ≤ x4 → ((x1 = 0 → ((am_L 10 a0 h) ∧ ((vp_in x3 (hN h (a0 + 35))) ∧ (Q (some (.int (hI h (a0 + 35) (Int32.toNatClampNeg x3)))) h)))) ∧ (¬ x1 = 0 → (Q (some (.int x3)) h)))) ∧ (¬ x2 ≤ x4 → ((am_L 10 a0 h) ∧ ((vp_in x4 (hN h (a0 + 35))) ∧ ((vp_in x3 (hN h (a0 + 35))) ∧ (((hI h (a0 + 35) (Int32.toNatClampNeg x3)) ≤ (hI h (a0 + 35) (Int32.toNatClampNeg x4)) → (Ev w (am_Z w) mX10_choice (d + 1) 26 [(0, .ref a0), (1, .int x1), (2, .int x2), (3, .int x3), (4, .int (x4 + 1))] [] h Q)) ∧ (¬ (hI h (a0 + 35) (Int32.toNatClampNeg x3)) ≤ (hI h (a0 + 35) (Int32.toNatClampNeg x4)) → (Ev w (am_Z w) mX10_choice (d + 1) 26 [(0, .ref a0), (1, .int x1), (2, .int x2), (3, .int x4), (4, .int (x4 + 1))] [] h Q)))))))) : Ev w (am_Z w) mX10_choice (d + 1) 26 [(0, .ref a0), (1, .int x1), (2, .int x2), (3, .int x3), (4, .int x4)] [] h Q := by
  refine Ev.iload 4 (am_dt kX10_choice 17 rfl) rfl ?_
  refine Ev.iload_n 2 (am_dt kX10_choice 18 rfl) rfl rfl ?_
  refine Ev.icmp_ge (tgt := 57) (am_dt kX10_choice 19 rfl) (by decide) (fun c => ?_) (fun c => ?_)
  · have k := k.1 c
    refine Ev.iload_n 1 (am_dt kX10_choice 33 rfl) rfl rfl ?_
    refine Ev.if_ne (tgt := 70) (am_dt kX10_choice 34 rfl) (by decide) (fun c => ?_) (fun c => ?_)
    · have k := k.2 c
      refine Ev.iload_n 3 (am_dt kX10_choice 40 rfl) rfl rfl ?_
      exact Ev.iret .int (am_dt kX10_choice 41 rfl) rfl rfl k
    · have k := k.1 c
      refine Ev.aload_n 0 (am_dt kX10_choice 35 rfl) rfl rfl ?_
      obtain ⟨f1, k⟩ := k
      refine Ev.getRe (ci := 10) (k := 51) (r := a0 + 35) (am_dt kX10_choice 36 rfl) (by decide) (by decide) rfl wd_576 f1.1 (am_L.r f1 34 rfl) (by omega) ?_
      refine Ev.iload_n 3 (am_dt kX10_choice 37 rfl) rfl rfl ?_
      obtain ⟨f2, k⟩ := k
      refine Ev.iald (am_dt kX10_choice 38 rfl) (am_L.s f1 34 rfl) f2 ?_
      refine Ev.goto (tgt := 71) (am_dt kX10_choice 39 rfl) (by decide) ?_
      exact Ev.iret .int (am_dt kX10_choice 41 rfl) rfl rfl k
  · have k := k.2 c
    refine Ev.aload_n 0 (am_dt kX10_choice 20 rfl) rfl rfl ?_
    obtain ⟨f3, k⟩ := k
    refine Ev.getRe (ci := 10) (k := 51) (r := a0 + 35) (am_dt kX10_choice 21 rfl) (by decide) (by decide) rfl wd_576 f3.1 (am_L.r f3 34 rfl) (by omega) ?_
    refine Ev.iload 4 (am_dt kX10_choice 22 rfl) rfl ?_
    obtain ⟨f4, k⟩ := k
    refine Ev.iald (am_dt kX10_choice 23 rfl) (am_L.s f3 34 rfl) f4 ?_
    refine Ev.aload_n 0 (am_dt kX10_choice 24 rfl) rfl rfl ?_
    refine Ev.getRe (ci := 10) (k := 51) (r := a0 + 35) (am_dt kX10_choice 25 rfl) (by decide) (by decide) rfl wd_576 f3.1 (am_L.r f3 34 rfl) (by omega) ?_
    refine Ev.iload_n 3 (am_dt kX10_choice 26 rfl) rfl rfl ?_
    obtain ⟨f5, k⟩ := k
    refine Ev.iald (am_dt kX10_choice 27 rfl) (am_L.s f3 34 rfl) f5 ?_
    refine Ev.icmp_ge (tgt := 51) (am_dt kX10_choice 28 rfl) (by decide) (fun c => ?_) (fun c => ?_)
    · have k := k.1 c
      refine Ev.iinc (v := x4 + 1) (lv' := [(4, .int (x4 + 1)), (0, .ref a0), (1, .int x1), (2, .int x2), (3, .int x3)]) 4 (am_dt kX10_choice 31 rfl) rfl rfl (by decide) rfl ?_
      refine Ev.goto (tgt := 26) (am_dt kX10_choice 32 rfl) (by decide) ?_
      exact Ev.sub [1, 2, 3, 4, 0] rfl k
    · have k := k.2 c
      refine Ev.iload 4 (am_dt kX10_choice 29 rfl) rfl ?_
      refine Ev.istore_n (lv' := [(3, .int x4), (0, .ref a0), (1, .int x1), (2, .int x2), (4, .int x4)]) (am_dt kX10_choice 30 rfl) rfl (by decide) rfl ?_
      refine Ev.iinc (v := x4 + 1) (lv' := [(4, .int (x4 + 1)), (3, .int x4), (0, .ref a0), (1, .int x1), (2, .int x2)]) 4 (am_dt kX10_choice 31 rfl) rfl rfl (by decide) rfl ?_
      refine Ev.goto (tgt := 26) (am_dt kX10_choice 32 rfl) (by decide) ?_
      exact Ev.sub [2, 3, 4, 1, 0] rfl k
set_option maxRecDepth 20000 in
set_option maxHeartbeats 2000000 in
theorem bX10_chosen_0 {w : am_W} {d : Nat} {h : am_H} {Q : Option Value → am_H → Prop} {a0 : Nat} {x1 : Int32}  (k : (am_L 10 a0 h) ∧ (∀ h2 : am_H, h2 = sI h a0 0 0 → (EvM w mX10_choosers d [.ref a0, .int 0] h2 (fun r4 h3 => ∃ v5 : Int32, r4 = some (.int v5) ∧ (EvM w mX10_within d [.int x1, .int 0, .int (((1 : Int32) <<< (v5 &&& 31)) - 1)] h3 (fun r7 h6 => ∃ v8 : Int32, r7 = some (.int v8) ∧ ((v8 = 0 → (Q (some (.int ((-1)))) h6)) ∧ (¬ v8 = 0 → ((am_L 10 a0 h6) ∧ (EvM w mX10_day d [.ref a0, .int x1] h6 (fun r11 h10 => r11 = none ∧ ((am_L 10 a0 h10) ∧ (EvM w mX10_costAll d [.ref a0, .int ((-1))] h10 (fun r14 h13 => ∃ v15 : Int32, r14 = some (.int v15) ∧ (Q (some (.int v15)) h13))))))))))))))) : EvM w mX10_chosen (d + 1) [.ref a0, .int x1] h Q := by
  show Ev w (am_Z w) mX10_chosen (d + 1) 0 [(0, .ref a0), (1, .int x1)] [] h Q
  refine Ev.aload_n 0 (am_dt kX10_chosen 0 rfl) rfl rfl ?_
  refine Ev.iconst (v := 0) (am_dt kX10_chosen 1 rfl) (by decide) ?_
  obtain ⟨f1, k⟩ := k
  refine Ev.putI' (ci := 10) (k := 0) (am_dt kX10_chosen 2 rfl) (by decide) (by decide) wd_583 rfl rfl rfl rfl f1.1 (fun h2 eh2 => ?_)
  have k := k h2 eh2
  have f1 := am_LsI eh2 f1
  refine Ev.iload_n 1 (am_dt kX10_chosen 3 rfl) rfl rfl ?_
  refine Ev.iconst (v := 0) (am_dt kX10_chosen 4 rfl) (by decide) ?_
  refine Ev.iconst (v := 1) (am_dt kX10_chosen 5 rfl) (by decide) ?_
  refine Ev.aload_n 0 (am_dt kX10_chosen 6 rfl) rfl rfl ?_
  refine Ev.iconst (v := 0) (am_dt kX10_chosen 7 rfl) (by decide) ?_
  refine Ev.callV (ci := 10) (v := mX10_choosers) (As := [.int 0]) (st := [.int 1, .int 0, .int x1]) okX10_choosers wd_675 wd_676 wd_677 (am_dt kX10_chosen 8 rfl) (by decide) rfl rfl (Nat.le_of_ble_eq_true rfl) (Nat.le_of_ble_eq_true rfl) f1.1 ?_
  refine EvM.mono k (fun r4 h3 k => ?_)
  obtain ⟨v5, rfl, k⟩ := k
  show Ev w _ _ _ 13 _ [.int v5, .int 1, .int 0, .int x1] _ _
  refine Ev.ishl (am_dt kX10_chosen 9 rfl) ?_
  refine Ev.iconst (v := 1) (am_dt kX10_chosen 10 rfl) (by decide) ?_
  refine Ev.isub (am_dt kX10_chosen 11 rfl) ?_
  refine Ev.callS (v := mX10_within) (As := [.int x1, .int 0, .int (((1 : Int32) <<< (v5 &&& 31)) - 1)]) (st := []) okX10_within wd_653 wd_652 (am_dt kX10_chosen 12 rfl) rfl rfl (Nat.le_of_ble_eq_true rfl) (Nat.le_of_ble_eq_true rfl) ?_
  refine EvM.mono k (fun r7 h6 k => ?_)
  obtain ⟨v8, rfl, k⟩ := k
  show Ev w _ _ _ 19 _ [.int v8] _ _
  refine Ev.if_ne (tgt := 24) (am_dt kX10_chosen 13 rfl) (by decide) (fun c => ?_) (fun c => ?_)
  · have k := k.2 c
    refine Ev.aload_n 0 (am_dt kX10_chosen 16 rfl) rfl rfl ?_
    refine Ev.iload_n 1 (am_dt kX10_chosen 17 rfl) rfl rfl ?_
    obtain ⟨f9, k⟩ := k
    refine Ev.callV (ci := 10) (v := mX10_day) (As := [.int x1]) (st := []) okX10_day wd_742 wd_743 wd_744 (am_dt kX10_chosen 18 rfl) (by decide) rfl rfl (Nat.le_of_ble_eq_true rfl) (Nat.le_of_ble_eq_true rfl) f9.1 ?_
    refine EvM.mono k (fun r11 h10 k => ?_)
    obtain ⟨rfl, k⟩ := k
    show Ev w _ _ _ 29 _ [] _ _
    refine Ev.aload_n 0 (am_dt kX10_chosen 19 rfl) rfl rfl ?_
    refine Ev.iconst (v := (-1)) (am_dt kX10_chosen 20 rfl) (by decide) ?_
    obtain ⟨f12, k⟩ := k
    refine Ev.callV (ci := 10) (v := mX10_costAll) (As := [.int ((-1))]) (st := []) okX10_costAll wd_745 wd_746 wd_747 (am_dt kX10_chosen 21 rfl) (by decide) rfl rfl (Nat.le_of_ble_eq_true rfl) (Nat.le_of_ble_eq_true rfl) f12.1 ?_
    refine EvM.mono k (fun r14 h13 k => ?_)
    obtain ⟨v15, rfl, k⟩ := k
    show Ev w _ _ _ 34 _ [.int v15] _ _
    exact Ev.iret .int (am_dt kX10_chosen 22 rfl) rfl rfl k
  · have k := k.1 c
    refine Ev.iconst (v := (-1)) (am_dt kX10_chosen 14 rfl) (by decide) ?_
    exact Ev.iret .int (am_dt kX10_chosen 15 rfl) rfl rfl k
set_option maxRecDepth 20000 in
set_option maxHeartbeats 2000000 in
theorem bX10_isRest_0 {w : am_W} {d : Nat} {h : am_H} {Q : Option Value → am_H → Prop} {a0 : Nat} {x1 : Int32}  (k : Ev w (am_Z w) mX10_isRest (d + 1) 2 [(0, .ref a0), (1, .int x1), (2, .int 0)] [] h Q) : EvM w mX10_isRest (d + 1) [.ref a0, .int x1] h Q := by
  show Ev w (am_Z w) mX10_isRest (d + 1) 0 [(0, .ref a0), (1, .int x1)] [] h Q
  refine Ev.iconst (v := 0) (am_dt kX10_isRest 0 rfl) (by decide) ?_
  refine Ev.istore_n (lv' := [(2, .int 0), (0, .ref a0), (1, .int x1)]) (am_dt kX10_isRest 1 rfl) rfl (by decide) rfl ?_
  exact Ev.sub [1, 2, 0] rfl k
set_option maxRecDepth 20000 in
set_option maxHeartbeats 2000000 in
theorem bX10_isRest_2 {w : am_W} {d : Nat} {h : am_H} {Q : Option Value → am_H → Prop} {a0 : Nat} {x1 : Int32} {x2 : Int32}  (k : (am_L 10 a0 h) ∧ (EvM w mX10_choosers d [.ref a0, .int 0] h (fun r3 h2 => ∃ v4 : Int32, r3 = some (.int v4) ∧ ((v4 ≤ x2 → (Q (some (.int 1)) h2)) ∧ (¬ v4 ≤ x2 → ((am_L 10 a0 h2) ∧ ((vp_in ((8 * (x1 ^^^ ((1 : Int32) <<< (x2 &&& 31)))) + x2) (hN h2 (a0 + 36))) ∧ ((vp_in ((8 * x1) + x2) (hN h2 (a0 + 36))) ∧ (((hI h2 (a0 + 36) (Int32.toNatClampNeg ((8 * x1) + x2))) ≤ (hI h2 (a0 + 36) (Int32.toNatClampNeg ((8 * (x1 ^^^ ((1 : Int32) <<< (x2 &&& 31)))) + x2))) → (Ev w (am_Z w) mX10_isRest (d + 1) 2 [(0, .ref a0), (1, .int x1), (2, .int (x2 + 1))] [] h2 Q)) ∧ (¬ (hI h2 (a0 + 36) (Int32.toNatClampNeg ((8 * x1) + x2))) ≤ (hI h2 (a0 + 36) (Int32.toNatClampNeg ((8 * (x1 ^^^ ((1 : Int32) <<< (x2 &&& 31)))) + x2))) → (Q (some (.int 0)) h2))))))))))) : Ev w (am_Z w) mX10_isRest (d + 1) 2 [(0, .ref a0), (1, .int x1), (2, .int x2)] [] h Q := by
  refine Ev.iload_n 2 (am_dt kX10_isRest 2 rfl) rfl rfl ?_
  refine Ev.aload_n 0 (am_dt kX10_isRest 3 rfl) rfl rfl ?_
  refine Ev.iconst (v := 0) (am_dt kX10_isRest 4 rfl) (by decide) ?_
  obtain ⟨f1, k⟩ := k
  refine Ev.callV (ci := 10) (v := mX10_choosers) (As := [.int 0]) (st := [.int x2]) okX10_choosers wd_675 wd_676 wd_677 (am_dt kX10_isRest 5 rfl) (by decide) rfl rfl (Nat.le_of_ble_eq_true rfl) (Nat.le_of_ble_eq_true rfl) f1.1 ?_
  refine EvM.mono k (fun r3 h2 k => ?_)
  obtain ⟨v4, rfl, k⟩ := k
  show Ev w _ _ _ 8 _ [.int v4, .int x2] _ _
  refine Ev.icmp_ge (tgt := 48) (am_dt kX10_isRest 6 rfl) (by decide) (fun c => ?_) (fun c => ?_)
  · have k := k.1 c
    refine Ev.iconst (v := 1) (am_dt kX10_isRest 32 rfl) (by decide) ?_
    exact Ev.iret .boolean (am_dt kX10_isRest 33 rfl) rfl rfl k
  · have k := k.2 c
    refine Ev.aload_n 0 (am_dt kX10_isRest 7 rfl) rfl rfl ?_
    obtain ⟨f5, k⟩ := k
    refine Ev.getRe (ci := 10) (k := 52) (r := a0 + 36) (am_dt kX10_isRest 8 rfl) (by decide) (by decide) rfl wd_577 f5.1 (am_L.r f5 35 rfl) (by omega) ?_
    refine Ev.bipush (v := 8) (am_dt kX10_isRest 9 rfl) (by decide) ?_
    refine Ev.iload_n 1 (am_dt kX10_isRest 10 rfl) rfl rfl ?_
    refine Ev.iconst (v := 1) (am_dt kX10_isRest 11 rfl) (by decide) ?_
    refine Ev.iload_n 2 (am_dt kX10_isRest 12 rfl) rfl rfl ?_
    refine Ev.ishl (am_dt kX10_isRest 13 rfl) ?_
    refine Ev.ixor (am_dt kX10_isRest 14 rfl) ?_
    refine Ev.imul (am_dt kX10_isRest 15 rfl) ?_
    refine Ev.iload_n 2 (am_dt kX10_isRest 16 rfl) rfl rfl ?_
    refine Ev.iadd (am_dt kX10_isRest 17 rfl) ?_
    obtain ⟨f6, k⟩ := k
    refine Ev.iald (am_dt kX10_isRest 18 rfl) (am_L.s f5 35 rfl) f6 ?_
    refine Ev.aload_n 0 (am_dt kX10_isRest 19 rfl) rfl rfl ?_
    refine Ev.getRe (ci := 10) (k := 52) (r := a0 + 36) (am_dt kX10_isRest 20 rfl) (by decide) (by decide) rfl wd_577 f5.1 (am_L.r f5 35 rfl) (by omega) ?_
    refine Ev.bipush (v := 8) (am_dt kX10_isRest 21 rfl) (by decide) ?_
    refine Ev.iload_n 1 (am_dt kX10_isRest 22 rfl) rfl rfl ?_
    refine Ev.imul (am_dt kX10_isRest 23 rfl) ?_
    refine Ev.iload_n 2 (am_dt kX10_isRest 24 rfl) rfl rfl ?_
    refine Ev.iadd (am_dt kX10_isRest 25 rfl) ?_
    obtain ⟨f7, k⟩ := k
    refine Ev.iald (am_dt kX10_isRest 26 rfl) (am_L.s f5 35 rfl) f7 ?_
    refine Ev.icmp_ge (tgt := 42) (am_dt kX10_isRest 27 rfl) (by decide) (fun c => ?_) (fun c => ?_)
    · have k := k.1 c
      refine Ev.iinc (v := x2 + 1) (lv' := [(2, .int (x2 + 1)), (0, .ref a0), (1, .int x1)]) 2 (am_dt kX10_isRest 30 rfl) rfl rfl (by decide) rfl ?_
      refine Ev.goto (tgt := 2) (am_dt kX10_isRest 31 rfl) (by decide) ?_
      exact Ev.sub [1, 2, 0] rfl k
    · have k := k.2 c
      refine Ev.iconst (v := 0) (am_dt kX10_isRest 28 rfl) (by decide) ?_
      exact Ev.iret .boolean (am_dt kX10_isRest 29 rfl) rfl rfl k
set_option maxRecDepth 20000 in
set_option maxHeartbeats 2000000 in
theorem bX10_rests_0 {w : am_W} {d : Nat} {h : am_H} {Q : Option Value → am_H → Prop} {a0 : Nat}  (k : (am_L 10 a0 h) ∧ (∀ h2 : am_H, h2 = sI h a0 0 0 → (EvM w mX10_choices d [.ref a0] h2 (fun r4 h3 => ∃ v5 : Int32, r4 = some (.int v5) ∧ (Ev w (am_Z w) mX10_rests (d + 1) 14 [(0, .ref a0), (1, .int v5), (2, .int 0), (3, .int 0)] [] h3 Q))))) : EvM w mX10_rests (d + 1) [.ref a0] h Q := by
  show Ev w (am_Z w) mX10_rests (d + 1) 0 [(0, .ref a0)] [] h Q
  refine Ev.aload_n 0 (am_dt kX10_rests 0 rfl) rfl rfl ?_
  refine Ev.iconst (v := 0) (am_dt kX10_rests 1 rfl) (by decide) ?_
  obtain ⟨f1, k⟩ := k
  refine Ev.putI' (ci := 10) (k := 0) (am_dt kX10_rests 2 rfl) (by decide) (by decide) wd_583 rfl rfl rfl rfl f1.1 (fun h2 eh2 => ?_)
  have k := k h2 eh2
  have f1 := am_LsI eh2 f1
  refine Ev.aload_n 0 (am_dt kX10_rests 3 rfl) rfl rfl ?_
  refine Ev.callV (ci := 10) (v := mX10_choices) (As := []) (st := []) okX10_choices wd_762 wd_763 wd_764 (am_dt kX10_rests 4 rfl) (by decide) rfl rfl (Nat.le_of_ble_eq_true rfl) (Nat.le_of_ble_eq_true rfl) f1.1 ?_
  refine EvM.mono k (fun r4 h3 k => ?_)
  obtain ⟨v5, rfl, k⟩ := k
  show Ev w _ _ _ 9 _ [.int v5] _ _
  refine Ev.istore_n (lv' := [(1, .int v5), (0, .ref a0)]) (am_dt kX10_rests 5 rfl) rfl (by decide) rfl ?_
  refine Ev.iconst (v := 0) (am_dt kX10_rests 6 rfl) (by decide) ?_
  refine Ev.istore_n (lv' := [(2, .int 0), (1, .int v5), (0, .ref a0)]) (am_dt kX10_rests 7 rfl) rfl (by decide) rfl ?_
  refine Ev.iconst (v := 0) (am_dt kX10_rests 8 rfl) (by decide) ?_
  refine Ev.istore_n (lv' := [(3, .int 0), (2, .int 0), (1, .int v5), (0, .ref a0)]) (am_dt kX10_rests 9 rfl) rfl (by decide) rfl ?_
  exact Ev.sub [3, 2, 1, 0] rfl k
set_option maxRecDepth 20000 in
set_option maxHeartbeats 2000000 in
theorem bX10_rests_14 {w : am_W} {d : Nat} {h : am_H} {Q : Option Value → am_H → Prop} {a0 : Nat} {x1 : Int32} {x2 : Int32} {x3 : Int32}  (k : (x1 ≤ x3 → (Q (some (.int x2)) h)) ∧ (¬ x1 ≤ x3 → ((am_L 10 a0 h) ∧ (EvM w mX10_isRest d [.ref a0, .int x3] h (fun r3 h2 => ∃ v4 : Int32, r3 = some (.int v4) ∧ ((v4 = 0 → (Ev w (am_Z w) mX10_rests (d + 1) 14 [(0, .ref a0), (1, .int x1), (2, .int (x2 + 0)), (3, .int (x3 + 1))] [] h2 Q)) ∧ (¬ v4 = 0 → (Ev w (am_Z w) mX10_rests (d + 1) 14 [(0, .ref a0), (1, .int x1), (2, .int (x2 + 1)), (3, .int (x3 + 1))] [] h2 Q)))))))) : Ev w (am_Z w) mX10_rests (d + 1) 14 [(0, .ref a0), (1, .int x1), (2, .int x2), (3, .int x3)] [] h Q := by
  refine Ev.iload_n 3 (am_dt kX10_rests 10 rfl) rfl rfl ?_
  refine Ev.iload_n 1 (am_dt kX10_rests 11 rfl) rfl rfl ?_
  refine Ev.icmp_ge (tgt := 41) (am_dt kX10_rests 12 rfl) (by decide) (fun c => ?_) (fun c => ?_)
  · have k := k.1 c
    refine Ev.iload_n 2 (am_dt kX10_rests 25 rfl) rfl rfl ?_
    exact Ev.iret .int (am_dt kX10_rests 26 rfl) rfl rfl k
  · have k := k.2 c
    refine Ev.iload_n 2 (am_dt kX10_rests 13 rfl) rfl rfl ?_
    refine Ev.aload_n 0 (am_dt kX10_rests 14 rfl) rfl rfl ?_
    refine Ev.iload_n 3 (am_dt kX10_rests 15 rfl) rfl rfl ?_
    obtain ⟨f1, k⟩ := k
    refine Ev.callV (ci := 10) (v := mX10_isRest) (As := [.int x3]) (st := [.int x2]) okX10_isRest wd_765 wd_766 wd_767 (am_dt kX10_rests 16 rfl) (by decide) rfl rfl (Nat.le_of_ble_eq_true rfl) (Nat.le_of_ble_eq_true rfl) f1.1 ?_
    refine EvM.mono k (fun r3 h2 k => ?_)
    obtain ⟨v4, rfl, k⟩ := k
    show Ev w _ _ _ 25 _ [.int v4, .int x2] _ _
    refine Ev.if_eq (tgt := 32) (am_dt kX10_rests 17 rfl) (by decide) (fun c => ?_) (fun c => ?_)
    · have k := k.1 c
      refine Ev.iconst (v := 0) (am_dt kX10_rests 20 rfl) (by decide) ?_
      refine Ev.iadd (am_dt kX10_rests 21 rfl) ?_
      refine Ev.istore_n (lv' := [(2, .int (x2 + 0)), (0, .ref a0), (1, .int x1), (3, .int x3)]) (am_dt kX10_rests 22 rfl) rfl (by decide) rfl ?_
      refine Ev.iinc (v := x3 + 1) (lv' := [(3, .int (x3 + 1)), (2, .int (x2 + 0)), (0, .ref a0), (1, .int x1)]) 3 (am_dt kX10_rests 23 rfl) rfl rfl (by decide) rfl ?_
      refine Ev.goto (tgt := 14) (am_dt kX10_rests 24 rfl) (by decide) ?_
      exact Ev.sub [2, 3, 1, 0] rfl k
    · have k := k.2 c
      refine Ev.iconst (v := 1) (am_dt kX10_rests 18 rfl) (by decide) ?_
      refine Ev.goto (tgt := 33) (am_dt kX10_rests 19 rfl) (by decide) ?_
      refine Ev.iadd (am_dt kX10_rests 21 rfl) ?_
      refine Ev.istore_n (lv' := [(2, .int (x2 + 1)), (0, .ref a0), (1, .int x1), (3, .int x3)]) (am_dt kX10_rests 22 rfl) rfl (by decide) rfl ?_
      refine Ev.iinc (v := x3 + 1) (lv' := [(3, .int (x3 + 1)), (2, .int (x2 + 1)), (0, .ref a0), (1, .int x1)]) 3 (am_dt kX10_rests 23 rfl) rfl rfl (by decide) rfl ?_
      refine Ev.goto (tgt := 14) (am_dt kX10_rests 24 rfl) (by decide) ?_
      exact Ev.sub [2, 3, 1, 0] rfl k
set_option maxRecDepth 20000 in
set_option maxHeartbeats 2000000 in
theorem bX10_rest_0 {w : am_W} {d : Nat} {h : am_H} {Q : Option Value → am_H → Prop} {a0 : Nat} {x1 : Int32}  (k : (am_L 10 a0 h) ∧ (∀ h2 : am_H, h2 = sI h a0 0 0 → (EvM w mX10_choices d [.ref a0] h2 (fun r4 h3 => ∃ v5 : Int32, r4 = some (.int v5) ∧ (Ev w (am_Z w) mX10_rest (d + 1) 15 [(0, .ref a0), (1, .int x1), (2, .int v5), (3, .int 0), (4, .int 0)] [] h3 Q))))) : EvM w mX10_rest (d + 1) [.ref a0, .int x1] h Q := by
  show Ev w (am_Z w) mX10_rest (d + 1) 0 [(0, .ref a0), (1, .int x1)] [] h Q
  refine Ev.aload_n 0 (am_dt kX10_rest 0 rfl) rfl rfl ?_
  refine Ev.iconst (v := 0) (am_dt kX10_rest 1 rfl) (by decide) ?_
  obtain ⟨f1, k⟩ := k
  refine Ev.putI' (ci := 10) (k := 0) (am_dt kX10_rest 2 rfl) (by decide) (by decide) wd_583 rfl rfl rfl rfl f1.1 (fun h2 eh2 => ?_)
  have k := k h2 eh2
  have f1 := am_LsI eh2 f1
  refine Ev.aload_n 0 (am_dt kX10_rest 3 rfl) rfl rfl ?_
  refine Ev.callV (ci := 10) (v := mX10_choices) (As := []) (st := []) okX10_choices wd_762 wd_763 wd_764 (am_dt kX10_rest 4 rfl) (by decide) rfl rfl (Nat.le_of_ble_eq_true rfl) (Nat.le_of_ble_eq_true rfl) f1.1 ?_
  refine EvM.mono k (fun r4 h3 k => ?_)
  obtain ⟨v5, rfl, k⟩ := k
  show Ev w _ _ _ 9 _ [.int v5] _ _
  refine Ev.istore_n (lv' := [(2, .int v5), (0, .ref a0), (1, .int x1)]) (am_dt kX10_rest 5 rfl) rfl (by decide) rfl ?_
  refine Ev.iconst (v := 0) (am_dt kX10_rest 6 rfl) (by decide) ?_
  refine Ev.istore_n (lv' := [(3, .int 0), (2, .int v5), (0, .ref a0), (1, .int x1)]) (am_dt kX10_rest 7 rfl) rfl (by decide) rfl ?_
  refine Ev.iconst (v := 0) (am_dt kX10_rest 8 rfl) (by decide) ?_
  refine Ev.istore (lv' := [(4, .int 0), (3, .int 0), (2, .int v5), (0, .ref a0), (1, .int x1)]) (am_dt kX10_rest 9 rfl) (by decide) rfl ?_
  exact Ev.sub [3, 4, 2, 1, 0] rfl k
set_option maxRecDepth 20000 in
set_option maxHeartbeats 2000000 in
theorem bX10_rest_15 {w : am_W} {d : Nat} {h : am_H} {Q : Option Value → am_H → Prop} {a0 : Nat} {x1 : Int32} {x2 : Int32} {x3 : Int32} {x4 : Int32}  (k : (x2 ≤ x4 → (Q (some (.int ((-1)))) h)) ∧ (¬ x2 ≤ x4 → ((am_L 10 a0 h) ∧ (EvM w mX10_isRest d [.ref a0, .int x4] h (fun r3 h2 => ∃ v4 : Int32, r3 = some (.int v4) ∧ ((v4 = 0 → (Ev w (am_Z w) mX10_rest (d + 1) 15 [(0, .ref a0), (1, .int x1), (2, .int x2), (3, .int x3), (4, .int (x4 + 1))] [] h2 Q)) ∧ (¬ v4 = 0 → ((x3 = x1 → (Q (some (.int x4)) h2)) ∧ (¬ x3 = x1 → (Ev w (am_Z w) mX10_rest (d + 1) 15 [(0, .ref a0), (1, .int x1), (2, .int x2), (3, .int (x3 + 1)), (4, .int (x4 + 1))] [] h2 Q)))))))))) : Ev w (am_Z w) mX10_rest (d + 1) 15 [(0, .ref a0), (1, .int x1), (2, .int x2), (3, .int x3), (4, .int x4)] [] h Q := by
  refine Ev.iload 4 (am_dt kX10_rest 10 rfl) rfl ?_
  refine Ev.iload_n 2 (am_dt kX10_rest 11 rfl) rfl rfl ?_
  refine Ev.icmp_ge (tgt := 50) (am_dt kX10_rest 12 rfl) (by decide) (fun c => ?_) (fun c => ?_)
  · have k := k.1 c
    refine Ev.iconst (v := (-1)) (am_dt kX10_rest 26 rfl) (by decide) ?_
    exact Ev.iret .int (am_dt kX10_rest 27 rfl) rfl rfl k
  · have k := k.2 c
    refine Ev.aload_n 0 (am_dt kX10_rest 13 rfl) rfl rfl ?_
    refine Ev.iload 4 (am_dt kX10_rest 14 rfl) rfl ?_
    obtain ⟨f1, k⟩ := k
    refine Ev.callV (ci := 10) (v := mX10_isRest) (As := [.int x4]) (st := []) okX10_isRest wd_765 wd_766 wd_767 (am_dt kX10_rest 15 rfl) (by decide) rfl rfl (Nat.le_of_ble_eq_true rfl) (Nat.le_of_ble_eq_true rfl) f1.1 ?_
    refine EvM.mono k (fun r3 h2 k => ?_)
    obtain ⟨v4, rfl, k⟩ := k
    show Ev w _ _ _ 27 _ [.int v4] _ _
    refine Ev.if_ne (tgt := 33) (am_dt kX10_rest 16 rfl) (by decide) (fun c => ?_) (fun c => ?_)
    · have k := k.2 c
      refine Ev.iload_n 3 (am_dt kX10_rest 18 rfl) rfl rfl ?_
      refine Ev.iload_n 1 (am_dt kX10_rest 19 rfl) rfl rfl ?_
      refine Ev.icmp_ne (tgt := 41) (am_dt kX10_rest 20 rfl) (by decide) (fun c => ?_) (fun c => ?_)
      · have k := k.2 c
        refine Ev.iinc (v := x3 + 1) (lv' := [(3, .int (x3 + 1)), (0, .ref a0), (1, .int x1), (2, .int x2), (4, .int x4)]) 3 (am_dt kX10_rest 23 rfl) rfl rfl (by decide) rfl ?_
        refine Ev.iinc (v := x4 + 1) (lv' := [(4, .int (x4 + 1)), (3, .int (x3 + 1)), (0, .ref a0), (1, .int x1), (2, .int x2)]) 4 (am_dt kX10_rest 24 rfl) rfl rfl (by decide) rfl ?_
        refine Ev.goto (tgt := 15) (am_dt kX10_rest 25 rfl) (by decide) ?_
        exact Ev.sub [2, 3, 4, 1, 0] rfl k
      · have k := k.1 c
        refine Ev.iload 4 (am_dt kX10_rest 21 rfl) rfl ?_
        exact Ev.iret .int (am_dt kX10_rest 22 rfl) rfl rfl k
    · have k := k.1 c
      refine Ev.goto (tgt := 44) (am_dt kX10_rest 17 rfl) (by decide) ?_
      refine Ev.iinc (v := x4 + 1) (lv' := [(4, .int (x4 + 1)), (0, .ref a0), (1, .int x1), (2, .int x2), (3, .int x3)]) 4 (am_dt kX10_rest 24 rfl) rfl rfl (by decide) rfl ?_
      refine Ev.goto (tgt := 15) (am_dt kX10_rest 25 rfl) (by decide) ?_
      exact Ev.sub [1, 2, 3, 4, 0] rfl k
set_option maxRecDepth 20000 in
set_option maxHeartbeats 2000000 in
theorem bX10_tell_0 {w : am_W} {d : Nat} {h : am_H} {Q : Option Value → am_H → Prop} {a0 : Nat} {x1 : Int32}  (k : (am_L 10 a0 h) ∧ (∀ h2 : am_H, h2 = sI h a0 0 0 → ((vp_in 9 (hN h2 (a0 + 2))) ∧ (EvM w mX10_isMinute d [.int x1] h2 (fun r5 h4 => ∃ v6 : Int32, r5 = some (.int v6) ∧ ((v6 = 0 → (Q (some (.int ((-1)))) h4)) ∧ (¬ v6 = 0 → (((hI h2 (a0 + 2) (Int32.toNatClampNeg 9)) = 30 → (Q (some (.int ((-1)))) h4)) ∧ (¬ (hI h2 (a0 + 2) (Int32.toNatClampNeg 9)) = 30 → (((hI h2 (a0 + 2) (Int32.toNatClampNeg 9)) ≤ 0 → (Ev w (am_Z w) mX10_tell (d + 1) 44 [(0, .ref a0), (1, .int x1), (2, .int (hI h2 (a0 + 2) (Int32.toNatClampNeg 9)))] [] h4 Q)) ∧ (¬ (hI h2 (a0 + 2) (Int32.toNatClampNeg 9)) ≤ 0 → ((am_L 10 a0 h4) ∧ ((vp_in ((hI h2 (a0 + 2) (Int32.toNatClampNeg 9)) - 1) (hN h4 (a0 + 12))) ∧ (((hI h4 (a0 + 12) (Int32.toNatClampNeg ((hI h2 (a0 + 2) (Int32.toNatClampNeg 9)) - 1))) < x1 → (Ev w (am_Z w) mX10_tell (d + 1) 44 [(0, .ref a0), (1, .int x1), (2, .int (hI h2 (a0 + 2) (Int32.toNatClampNeg 9)))] [] h4 Q)) ∧ (¬ (hI h4 (a0 + 12) (Int32.toNatClampNeg ((hI h2 (a0 + 2) (Int32.toNatClampNeg 9)) - 1))) < x1 → (Q (some (.int ((-1)))) h4)))))))))))))))) : EvM w mX10_tell (d + 1) [.ref a0, .int x1] h Q := by
  show Ev w (am_Z w) mX10_tell (d + 1) 0 [(0, .ref a0), (1, .int x1)] [] h Q
  refine Ev.aload_n 0 (am_dt kX10_tell 0 rfl) rfl rfl ?_
  refine Ev.iconst (v := 0) (am_dt kX10_tell 1 rfl) (by decide) ?_
  obtain ⟨f1, k⟩ := k
  refine Ev.putI' (ci := 10) (k := 0) (am_dt kX10_tell 2 rfl) (by decide) (by decide) wd_583 rfl rfl rfl rfl f1.1 (fun h2 eh2 => ?_)
  have k := k h2 eh2
  have f1 := am_LsI eh2 f1
  refine Ev.aload_n 0 (am_dt kX10_tell 3 rfl) rfl rfl ?_
  refine Ev.getRe (ci := 10) (k := 10) (r := a0 + 2) (am_dt kX10_tell 4 rfl) (by decide) (by decide) rfl wd_543 f1.1 (am_L.r f1 1 rfl) (by omega) ?_
  refine Ev.bipush (v := 9) (am_dt kX10_tell 5 rfl) (by decide) ?_
  obtain ⟨f3, k⟩ := k
  refine Ev.iald (am_dt kX10_tell 6 rfl) (am_L.s f1 1 rfl) f3 ?_
  refine Ev.istore_n (lv' := [(2, .int (hI h2 (a0 + 2) (Int32.toNatClampNeg 9))), (0, .ref a0), (1, .int x1)]) (am_dt kX10_tell 7 rfl) rfl (by decide) rfl ?_
  refine Ev.iload_n 2 (am_dt kX10_tell 8 rfl) rfl rfl ?_
  refine Ev.callS (v := mX10_isMinute) (As := [.int x1]) (st := []) okX10_isMinute wd_749 wd_748 (am_dt kX10_tell 9 rfl) rfl rfl (Nat.le_of_ble_eq_true rfl) (Nat.le_of_ble_eq_true rfl) ?_
  refine EvM.mono k (fun r5 h4 k => ?_)
  obtain ⟨v6, rfl, k⟩ := k
  show Ev w _ _ _ 17 _ [.int v6] _ _
  refine Ev.if_eq (tgt := 42) (am_dt kX10_tell 10 rfl) (by decide) (fun c => ?_) (fun c => ?_)
  · have k := k.1 c
    refine Ev.iconst (v := (-1)) (am_dt kX10_tell 24 rfl) (by decide) ?_
    exact Ev.iret .int (am_dt kX10_tell 25 rfl) rfl rfl k
  · have k := k.2 c
    refine Ev.iload_n 0 (am_dt kX10_tell 11 rfl) rfl rfl ?_
    refine Ev.bipush (v := 30) (am_dt kX10_tell 12 rfl) (by decide) ?_
    refine Ev.icmp_eq (tgt := 42) (am_dt kX10_tell 13 rfl) (by decide) (fun c => ?_) (fun c => ?_)
    · have k := k.1 c
      refine Ev.iconst (v := (-1)) (am_dt kX10_tell 24 rfl) (by decide) ?_
      exact Ev.iret .int (am_dt kX10_tell 25 rfl) rfl rfl k
    · have k := k.2 c
      refine Ev.iload_n 0 (am_dt kX10_tell 14 rfl) rfl rfl ?_
      refine Ev.if_le (tgt := 44) (am_dt kX10_tell 15 rfl) (by decide) (fun c => ?_) (fun c => ?_)
      · have k := k.1 c
        exact Ev.sub [1, 2, 0] rfl k
      · have k := k.2 c
        refine Ev.iload_n 2 (am_dt kX10_tell 16 rfl) rfl rfl ?_
        refine Ev.aload_n 1 (am_dt kX10_tell 17 rfl) rfl rfl ?_
        obtain ⟨f7, k⟩ := k
        refine Ev.getRe (ci := 10) (k := 20) (r := a0 + 12) (am_dt kX10_tell 18 rfl) (by decide) (by decide) rfl wd_553 f7.1 (am_L.r f7 11 rfl) (by omega) ?_
        refine Ev.iload_n 0 (am_dt kX10_tell 19 rfl) rfl rfl ?_
        refine Ev.iconst (v := 1) (am_dt kX10_tell 20 rfl) (by decide) ?_
        refine Ev.isub (am_dt kX10_tell 21 rfl) ?_
        obtain ⟨f8, k⟩ := k
        refine Ev.iald (am_dt kX10_tell 22 rfl) (am_L.s f7 11 rfl) f8 ?_
        refine Ev.icmp_gt (tgt := 44) (am_dt kX10_tell 23 rfl) (by decide) (fun c => ?_) (fun c => ?_)
        · have k := k.1 c
          exact Ev.sub [1, 2, 0] rfl k
        · have k := k.2 c
          refine Ev.iconst (v := (-1)) (am_dt kX10_tell 24 rfl) (by decide) ?_
          exact Ev.iret .int (am_dt kX10_tell 25 rfl) rfl rfl k
set_option maxRecDepth 20000 in
set_option maxHeartbeats 2000000 in
theorem bX10_tell_44 {w : am_W} {d : Nat} {h : am_H} {Q : Option Value → am_H → Prop} {a0 : Nat} {x1 : Int32} {x2 : Int32}  (k : (am_L 10 a0 h) ∧ ((vp_in x2 (hN h (a0 + 12))) ∧ (∀ h3 : am_H, h3 = sI h (a0 + 12) (Int32.toNatClampNeg x2) x1 → ((vp_in 9 (hN h3 (a0 + 2))) ∧ ((vp_in 9 (hN h3 (a0 + 2))) ∧ (∀ h6 : am_H, h6 = sI h3 (a0 + 2) (Int32.toNatClampNeg 9) ((hI h3 (a0 + 2) (Int32.toNatClampNeg 9)) + 1) → (Q (some (.int (x2 + 1))) h6))))))) : Ev w (am_Z w) mX10_tell (d + 1) 44 [(0, .ref a0), (1, .int x1), (2, .int x2)] [] h Q := by
  refine Ev.aload_n 0 (am_dt kX10_tell 26 rfl) rfl rfl ?_
  obtain ⟨f1, k⟩ := k
  refine Ev.getRe (ci := 10) (k := 20) (r := a0 + 12) (am_dt kX10_tell 27 rfl) (by decide) (by decide) rfl wd_553 f1.1 (am_L.r f1 11 rfl) (by omega) ?_
  refine Ev.iload_n 2 (am_dt kX10_tell 28 rfl) rfl rfl ?_
  refine Ev.iload_n 1 (am_dt kX10_tell 29 rfl) rfl rfl ?_
  obtain ⟨f2, k⟩ := k
  refine Ev.iast' (am_dt kX10_tell 30 rfl) (am_L.s f1 11 rfl) f2 (fun h3 eh3 => ?_)
  have k := k h3 eh3
  have f1 := am_LsI eh3 f1
  refine Ev.aload_n 0 (am_dt kX10_tell 31 rfl) rfl rfl ?_
  refine Ev.getRe (ci := 10) (k := 10) (r := a0 + 2) (am_dt kX10_tell 32 rfl) (by decide) (by decide) rfl wd_543 f1.1 (am_L.r f1 1 rfl) (by omega) ?_
  refine Ev.bipush (v := 9) (am_dt kX10_tell 33 rfl) (by decide) ?_
  refine Ev.dup2 (am_dt kX10_tell 34 rfl) rfl rfl ?_
  obtain ⟨f4, k⟩ := k
  refine Ev.iald (am_dt kX10_tell 35 rfl) (am_L.s f1 1 rfl) f4 ?_
  refine Ev.iconst (v := 1) (am_dt kX10_tell 36 rfl) (by decide) ?_
  refine Ev.iadd (am_dt kX10_tell 37 rfl) ?_
  obtain ⟨f5, k⟩ := k
  refine Ev.iast' (am_dt kX10_tell 38 rfl) (am_L.s f1 1 rfl) f5 (fun h6 eh6 => ?_)
  have k := k h6 eh6
  have f1 := am_LsI eh6 f1
  refine Ev.iload_n 2 (am_dt kX10_tell 39 rfl) rfl rfl ?_
  refine Ev.iconst (v := 1) (am_dt kX10_tell 40 rfl) (by decide) ?_
  refine Ev.iadd (am_dt kX10_tell 41 rfl) ?_
  exact Ev.iret .int (am_dt kX10_tell 42 rfl) rfl rfl k
set_option maxRecDepth 20000 in
set_option maxHeartbeats 2000000 in
theorem bX10_clear_0 {w : am_W} {d : Nat} {h : am_H} {Q : Option Value → am_H → Prop} {a0 : Nat}  (k : (am_L 10 a0 h) ∧ (∀ h2 : am_H, h2 = sI h a0 0 0 → ((vp_in 9 (hN h2 (a0 + 2))) ∧ (∀ h4 : am_H, h4 = sI h2 (a0 + 2) (Int32.toNatClampNeg 9) 0 → (Q (some (.int 1)) h4))))) : EvM w mX10_clear d [.ref a0] h Q := by
  show Ev w (am_Z w) mX10_clear d 0 [(0, .ref a0)] [] h Q
  refine Ev.aload_n 0 (am_dt kX10_clear 0 rfl) rfl rfl ?_
  refine Ev.iconst (v := 0) (am_dt kX10_clear 1 rfl) (by decide) ?_
  obtain ⟨f1, k⟩ := k
  refine Ev.putI' (ci := 10) (k := 0) (am_dt kX10_clear 2 rfl) (by decide) (by decide) wd_583 rfl rfl rfl rfl f1.1 (fun h2 eh2 => ?_)
  have k := k h2 eh2
  have f1 := am_LsI eh2 f1
  refine Ev.aload_n 0 (am_dt kX10_clear 3 rfl) rfl rfl ?_
  refine Ev.getRe (ci := 10) (k := 10) (r := a0 + 2) (am_dt kX10_clear 4 rfl) (by decide) (by decide) rfl wd_543 f1.1 (am_L.r f1 1 rfl) (by omega) ?_
  refine Ev.bipush (v := 9) (am_dt kX10_clear 5 rfl) (by decide) ?_
  refine Ev.iconst (v := 0) (am_dt kX10_clear 6 rfl) (by decide) ?_
  obtain ⟨f3, k⟩ := k
  refine Ev.iast' (am_dt kX10_clear 7 rfl) (am_L.s f1 1 rfl) f3 (fun h4 eh4 => ?_)
  have k := k h4 eh4
  have f1 := am_LsI eh4 f1
  refine Ev.iconst (v := 1) (am_dt kX10_clear 8 rfl) (by decide) ?_
  exact Ev.iret .boolean (am_dt kX10_clear 9 rfl) rfl rfl k
set_option maxRecDepth 20000 in
set_option maxHeartbeats 2000000 in
theorem bX10_judged_0 {w : am_W} {d : Nat} {h : am_H} {Q : Option Value → am_H → Prop} {a0 : Nat} {x1 : Int32}  (k : (am_L 10 a0 h) ∧ (∀ h2 : am_H, h2 = sI h a0 0 0 → (EvM w mX10_within d [.int x1, .int 0, .int 1] h2 (fun r4 h3 => ∃ v5 : Int32, r4 = some (.int v5) ∧ ((v5 = 0 → (Q (some (.int ((-1)))) h3)) ∧ (¬ v5 = 0 → ((am_L 10 a0 h3) ∧ (EvM w mX10_tellsAll d [.ref a0, .int ((-1))] h3 (fun r8 h7 => r8 = none ∧ (Ev w (am_Z w) mX10_judged (d + 1) 25 [(0, .ref a0), (1, .int x1), (2, .int 0), (3, .int 0)] [] h7 Q)))))))))) : EvM w mX10_judged (d + 1) [.ref a0, .int x1] h Q := by
  show Ev w (am_Z w) mX10_judged (d + 1) 0 [(0, .ref a0), (1, .int x1)] [] h Q
  refine Ev.aload_n 0 (am_dt kX10_judged 0 rfl) rfl rfl ?_
  refine Ev.iconst (v := 0) (am_dt kX10_judged 1 rfl) (by decide) ?_
  obtain ⟨f1, k⟩ := k
  refine Ev.putI' (ci := 10) (k := 0) (am_dt kX10_judged 2 rfl) (by decide) (by decide) wd_583 rfl rfl rfl rfl f1.1 (fun h2 eh2 => ?_)
  have k := k h2 eh2
  have f1 := am_LsI eh2 f1
  refine Ev.iload_n 1 (am_dt kX10_judged 3 rfl) rfl rfl ?_
  refine Ev.iconst (v := 0) (am_dt kX10_judged 4 rfl) (by decide) ?_
  refine Ev.iconst (v := 1) (am_dt kX10_judged 5 rfl) (by decide) ?_
  refine Ev.callS (v := mX10_within) (As := [.int x1, .int 0, .int 1]) (st := []) okX10_within wd_653 wd_652 (am_dt kX10_judged 6 rfl) rfl rfl (Nat.le_of_ble_eq_true rfl) (Nat.le_of_ble_eq_true rfl) ?_
  refine EvM.mono k (fun r4 h3 k => ?_)
  obtain ⟨v5, rfl, k⟩ := k
  show Ev w _ _ _ 11 _ [.int v5] _ _
  refine Ev.if_ne (tgt := 16) (am_dt kX10_judged 7 rfl) (by decide) (fun c => ?_) (fun c => ?_)
  · have k := k.2 c
    refine Ev.aload_n 0 (am_dt kX10_judged 10 rfl) rfl rfl ?_
    refine Ev.iconst (v := (-1)) (am_dt kX10_judged 11 rfl) (by decide) ?_
    obtain ⟨f6, k⟩ := k
    refine Ev.callV (ci := 10) (v := mX10_tellsAll) (As := [.int ((-1))]) (st := []) okX10_tellsAll wd_733 wd_734 wd_735 (am_dt kX10_judged 12 rfl) (by decide) rfl rfl (Nat.le_of_ble_eq_true rfl) (Nat.le_of_ble_eq_true rfl) f6.1 ?_
    refine EvM.mono k (fun r8 h7 k => ?_)
    obtain ⟨rfl, k⟩ := k
    show Ev w _ _ _ 21 _ [] _ _
    refine Ev.iconst (v := 0) (am_dt kX10_judged 13 rfl) (by decide) ?_
    refine Ev.istore_n (lv' := [(2, .int 0), (0, .ref a0), (1, .int x1)]) (am_dt kX10_judged 14 rfl) rfl (by decide) rfl ?_
    refine Ev.iconst (v := 0) (am_dt kX10_judged 15 rfl) (by decide) ?_
    refine Ev.istore_n (lv' := [(3, .int 0), (2, .int 0), (0, .ref a0), (1, .int x1)]) (am_dt kX10_judged 16 rfl) rfl (by decide) rfl ?_
    exact Ev.sub [2, 3, 1, 0] rfl k
  · have k := k.1 c
    refine Ev.iconst (v := (-1)) (am_dt kX10_judged 8 rfl) (by decide) ?_
    exact Ev.iret .int (am_dt kX10_judged 9 rfl) rfl rfl k
set_option maxRecDepth 20000 in
set_option maxHeartbeats 2000000 in
theorem bX10_judged_25 {w : am_W} {d : Nat} {h : am_H} {Q : Option Value → am_H → Prop} {a0 : Nat} {x1 : Int32} {x2 : Int32} {x3 : Int32}  (k : (1440 ≤ x3 → (Q (some (.int ((-1)))) h)) ∧ (¬ 1440 ≤ x3 → ((am_L 10 a0 h) ∧ ((vp_in 9 (hN h (a0 + 2))) ∧ (((hI h (a0 + 2) (Int32.toNatClampNeg 9)) ≤ x2 → (Ev w (am_Z w) mX10_judged (d + 1) 58 [(0, .ref a0), (1, .int x1), (2, .int x2), (3, .int x3)] [.int 0] h Q)) ∧ (¬ (hI h (a0 + 2) (Int32.toNatClampNeg 9)) ≤ x2 → ((vp_in x2 (hN h (a0 + 12))) ∧ (((hI h (a0 + 12) (Int32.toNatClampNeg x2)) = x3 → (Ev w (am_Z w) mX10_judged (d + 1) 58 [(0, .ref a0), (1, .int x1), (2, .int x2), (3, .int x3)] [.int 1] h Q)) ∧ (¬ (hI h (a0 + 12) (Int32.toNatClampNeg x2)) = x3 → (Ev w (am_Z w) mX10_judged (d + 1) 58 [(0, .ref a0), (1, .int x1), (2, .int x2), (3, .int x3)] [.int 0] h Q)))))))))) : Ev w (am_Z w) mX10_judged (d + 1) 25 [(0, .ref a0), (1, .int x1), (2, .int x2), (3, .int x3)] [] h Q := by
  refine Ev.iload_n 3 (am_dt kX10_judged 17 rfl) rfl rfl ?_
  refine Ev.sipush (v := 1440) (am_dt kX10_judged 18 rfl) (by decide) ?_
  refine Ev.icmp_ge (tgt := 111) (am_dt kX10_judged 19 rfl) (by decide) (fun c => ?_) (fun c => ?_)
  · have k := k.1 c
    refine Ev.iconst (v := (-1)) (am_dt kX10_judged 60 rfl) (by decide) ?_
    exact Ev.iret .int (am_dt kX10_judged 61 rfl) rfl rfl k
  · have k := k.2 c
    refine Ev.iload_n 2 (am_dt kX10_judged 20 rfl) rfl rfl ?_
    refine Ev.aload_n 0 (am_dt kX10_judged 21 rfl) rfl rfl ?_
    obtain ⟨f1, k⟩ := k
    refine Ev.getRe (ci := 10) (k := 10) (r := a0 + 2) (am_dt kX10_judged 22 rfl) (by decide) (by decide) rfl wd_543 f1.1 (am_L.r f1 1 rfl) (by omega) ?_
    refine Ev.bipush (v := 9) (am_dt kX10_judged 23 rfl) (by decide) ?_
    obtain ⟨f2, k⟩ := k
    refine Ev.iald (am_dt kX10_judged 24 rfl) (am_L.s f1 1 rfl) f2 ?_
    refine Ev.icmp_ge (tgt := 57) (am_dt kX10_judged 25 rfl) (by decide) (fun c => ?_) (fun c => ?_)
    · have k := k.1 c
      refine Ev.iconst (v := 0) (am_dt kX10_judged 34 rfl) (by decide) ?_
      exact k
    · have k := k.2 c
      refine Ev.aload_n 0 (am_dt kX10_judged 26 rfl) rfl rfl ?_
      refine Ev.getRe (ci := 10) (k := 20) (r := a0 + 12) (am_dt kX10_judged 27 rfl) (by decide) (by decide) rfl wd_553 f1.1 (am_L.r f1 11 rfl) (by omega) ?_
      refine Ev.iload_n 2 (am_dt kX10_judged 28 rfl) rfl rfl ?_
      obtain ⟨f3, k⟩ := k
      refine Ev.iald (am_dt kX10_judged 29 rfl) (am_L.s f1 11 rfl) f3 ?_
      refine Ev.iload_n 3 (am_dt kX10_judged 30 rfl) rfl rfl ?_
      refine Ev.icmp_ne (tgt := 57) (am_dt kX10_judged 31 rfl) (by decide) (fun c => ?_) (fun c => ?_)
      · have k := k.2 c
        refine Ev.iconst (v := 0) (am_dt kX10_judged 34 rfl) (by decide) ?_
        exact k
      · have k := k.1 c
        refine Ev.iconst (v := 1) (am_dt kX10_judged 32 rfl) (by decide) ?_
        refine Ev.goto (tgt := 58) (am_dt kX10_judged 33 rfl) (by decide) ?_
        exact k
set_option maxRecDepth 20000 in
set_option maxHeartbeats 2000000 in
theorem bX10_judged_58 {w : am_W} {d : Nat} {h : am_H} {Q : Option Value → am_H → Prop} {a0 : Nat} {x1 : Int32} {x2 : Int32} {x3 : Int32} {s0 : Int32} (k : (am_L 10 a0 h) ∧ (EvM w mX10_wouldRing d [.ref a0, .int x3] h (fun r3 h2 => ∃ v4 : Int32, r3 = some (.int v4) ∧ ((s0 = v4 → ((s0 = 0 → (Ev w (am_Z w) mX10_judged (d + 1) 25 [(0, .ref a0), (1, .int x1), (2, .int x2), (3, .int (x3 + 1))] [] h2 Q)) ∧ (¬ s0 = 0 → ((am_L 10 a0 h2) ∧ (EvM w mX10_ringsOnce d [.ref a0, .int x3] h2 (fun r7 h6 => r7 = none ∧ (Ev w (am_Z w) mX10_judged (d + 1) 25 [(0, .ref a0), (1, .int x1), (2, .int (x2 + 1)), (3, .int (x3 + 1))] [] h6 Q))))))) ∧ (¬ s0 = v4 → ((x1 = 0 → (Q (some (.int x3)) h2)) ∧ (¬ x1 = 0 → ((s0 = 0 → (Q (some (.int 2)) h2)) ∧ (¬ s0 = 0 → (Q (some (.int 1)) h2)))))))))) : Ev w (am_Z w) mX10_judged (d + 1) 58 [(0, .ref a0), (1, .int x1), (2, .int x2), (3, .int x3)] [.int s0] h Q := by
  refine Ev.istore (lv' := [(4, .int s0), (0, .ref a0), (1, .int x1), (2, .int x2), (3, .int x3)]) (am_dt kX10_judged 35 rfl) (by decide) rfl ?_
  refine Ev.iload 0 (am_dt kX10_judged 36 rfl) rfl ?_
  refine Ev.aload_n 1 (am_dt kX10_judged 37 rfl) rfl rfl ?_
  refine Ev.iload_n 4 (am_dt kX10_judged 38 rfl) rfl rfl ?_
  obtain ⟨f1, k⟩ := k
  refine Ev.callV (ci := 10) (v := mX10_wouldRing) (As := [.int x3]) (st := [.int s0]) okX10_wouldRing wd_727 wd_728 wd_729 (am_dt kX10_judged 39 rfl) (by decide) rfl rfl (Nat.le_of_ble_eq_true rfl) (Nat.le_of_ble_eq_true rfl) f1.1 ?_
  refine EvM.mono k (fun r3 h2 k => ?_)
  obtain ⟨v4, rfl, k⟩ := k
  show Ev w _ _ _ 67 _ [.int v4, .int s0] _ _
  refine Ev.icmp_eq (tgt := 89) (am_dt kX10_judged 40 rfl) (by decide) (fun c => ?_) (fun c => ?_)
  · have k := k.1 c
    refine Ev.iload 0 (am_dt kX10_judged 51 rfl) rfl ?_
    refine Ev.if_ne (tgt := 97) (am_dt kX10_judged 52 rfl) (by decide) (fun c => ?_) (fun c => ?_)
    · have k := k.2 c
      refine Ev.aload_n 1 (am_dt kX10_judged 54 rfl) rfl rfl ?_
      refine Ev.iload_n 4 (am_dt kX10_judged 55 rfl) rfl rfl ?_
      obtain ⟨f5, k⟩ := k
      refine Ev.callV (ci := 10) (v := mX10_ringsOnce) (As := [.int x3]) (st := []) okX10_ringsOnce wd_730 wd_731 wd_732 (am_dt kX10_judged 56 rfl) (by decide) rfl rfl (Nat.le_of_ble_eq_true rfl) (Nat.le_of_ble_eq_true rfl) f5.1 ?_
      refine EvM.mono k (fun r7 h6 k => ?_)
      obtain ⟨rfl, k⟩ := k
      show Ev w _ _ _ 102 _ [] _ _
      refine Ev.iinc (v := x2 + 1) (lv' := [(2, .int (x2 + 1)), (4, .int s0), (0, .ref a0), (1, .int x1), (3, .int x3)]) 3 (am_dt kX10_judged 57 rfl) rfl rfl (by decide) rfl ?_
      refine Ev.iinc (v := x3 + 1) (lv' := [(3, .int (x3 + 1)), (2, .int (x2 + 1)), (4, .int s0), (0, .ref a0), (1, .int x1)]) 4 (am_dt kX10_judged 58 rfl) rfl rfl (by decide) rfl ?_
      refine Ev.goto (tgt := 25) (am_dt kX10_judged 59 rfl) (by decide) ?_
      exact Ev.sub [3, 4, 1, 0] rfl k
    · have k := k.1 c
      refine Ev.goto (tgt := 105) (am_dt kX10_judged 53 rfl) (by decide) ?_
      refine Ev.iinc (v := x3 + 1) (lv' := [(3, .int (x3 + 1)), (4, .int s0), (0, .ref a0), (1, .int x1), (2, .int x2)]) 4 (am_dt kX10_judged 58 rfl) rfl rfl (by decide) rfl ?_
      refine Ev.goto (tgt := 25) (am_dt kX10_judged 59 rfl) (by decide) ?_
      exact Ev.sub [2, 3, 4, 0] rfl k
  · have k := k.2 c
    refine Ev.iload_n 2 (am_dt kX10_judged 41 rfl) rfl rfl ?_
    refine Ev.if_ne (tgt := 78) (am_dt kX10_judged 42 rfl) (by decide) (fun c => ?_) (fun c => ?_)
    · have k := k.2 c
      refine Ev.iload 0 (am_dt kX10_judged 45 rfl) rfl ?_
      refine Ev.if_eq (tgt := 87) (am_dt kX10_judged 46 rfl) (by decide) (fun c => ?_) (fun c => ?_)
      · have k := k.1 c
        refine Ev.iconst (v := 2) (am_dt kX10_judged 49 rfl) (by decide) ?_
        exact Ev.iret .int (am_dt kX10_judged 50 rfl) rfl rfl k
      · have k := k.2 c
        refine Ev.iconst (v := 1) (am_dt kX10_judged 47 rfl) (by decide) ?_
        refine Ev.goto (tgt := 88) (am_dt kX10_judged 48 rfl) (by decide) ?_
        exact Ev.iret .int (am_dt kX10_judged 50 rfl) rfl rfl k
    · have k := k.1 c
      refine Ev.iload_n 4 (am_dt kX10_judged 43 rfl) rfl rfl ?_
      refine Ev.goto (tgt := 88) (am_dt kX10_judged 44 rfl) (by decide) ?_
      exact Ev.iret .int (am_dt kX10_judged 50 rfl) rfl rfl k
set_option maxRecDepth 20000 in
set_option maxHeartbeats 2000000 in
theorem bX10_firsts_0 {w : am_W} {d : Nat} {h : am_H} {Q : Option Value → am_H → Prop} {x0 : Int32}  (k : Ev w (am_Z w) mX10_firsts d 4 [(0, .int x0), (1, .long 1), (3, .int 1)] [] h Q) : EvM w mX10_firsts d [.int x0] h Q := by
  show Ev w (am_Z w) mX10_firsts d 0 [(0, .int x0)] [] h Q
  refine Ev.lconst (v := 1) (am_dt kX10_firsts 0 rfl) (by decide) ?_
  refine Ev.lstore_n (lv' := [(1, .long 1), (0, .int x0)]) (am_dt kX10_firsts 1 rfl) rfl (by decide) rfl ?_
  refine Ev.iconst (v := 1) (am_dt kX10_firsts 2 rfl) (by decide) ?_
  refine Ev.istore_n (lv' := [(3, .int 1), (1, .long 1), (0, .int x0)]) (am_dt kX10_firsts 3 rfl) rfl (by decide) rfl ?_
  exact Ev.sub [2, 1, 0] rfl k
set_option maxRecDepth 20000 in
set_option maxHeartbeats 2000000 in
theorem bX10_firsts_4 {w : am_W} {d : Nat} {h : am_H} {Q : Option Value → am_H → Prop} {x0 : Int32} {y1 : Int64} {x3 : Int32}  (k : (x0 ≤ x3 → (Q (some (.long (2 * y1))) h)) ∧ (¬ x0 ≤ x3 → ((¬ (Int32.toInt64 (x3 + 1)) = 0) ∧ (Ev w (am_Z w) mX10_firsts d 4 [(0, .int x0), (1, .long ((y1 * (2 * (Int32.toInt64 ((2 * x3) - 1)))) / (Int32.toInt64 (x3 + 1)))), (3, .int (x3 + 1))] [] h Q)))) : Ev w (am_Z w) mX10_firsts d 4 [(0, .int x0), (1, .long y1), (3, .int x3)] [] h Q := by
  refine Ev.iload_n 2 (am_dt kX10_firsts 4 rfl) rfl rfl ?_
  refine Ev.iload_n 0 (am_dt kX10_firsts 5 rfl) rfl rfl ?_
  refine Ev.icmp_ge (tgt := 33) (am_dt kX10_firsts 6 rfl) (by decide) (fun c => ?_) (fun c => ?_)
  · have k := k.1 c
    refine Ev.ldc2 (v := 2) (am_dt kX10_firsts 25 rfl) wd_768 ?_
    refine Ev.lload_n 1 (am_dt kX10_firsts 26 rfl) rfl rfl ?_
    refine Ev.lmul (am_dt kX10_firsts 27 rfl) ?_
    exact Ev.lret (am_dt kX10_firsts 28 rfl) rfl k
  · have k := k.2 c
    refine Ev.lload_n 1 (am_dt kX10_firsts 7 rfl) rfl rfl ?_
    refine Ev.ldc2 (v := 2) (am_dt kX10_firsts 8 rfl) wd_768 ?_
    refine Ev.iconst (v := 2) (am_dt kX10_firsts 9 rfl) (by decide) ?_
    refine Ev.iload_n 2 (am_dt kX10_firsts 10 rfl) rfl rfl ?_
    refine Ev.imul (am_dt kX10_firsts 11 rfl) ?_
    refine Ev.iconst (v := 1) (am_dt kX10_firsts 12 rfl) (by decide) ?_
    refine Ev.isub (am_dt kX10_firsts 13 rfl) ?_
    refine Ev.i2l (am_dt kX10_firsts 14 rfl) ?_
    refine Ev.lmul (am_dt kX10_firsts 15 rfl) ?_
    refine Ev.lmul (am_dt kX10_firsts 16 rfl) ?_
    refine Ev.iload_n 2 (am_dt kX10_firsts 17 rfl) rfl rfl ?_
    refine Ev.iconst (v := 1) (am_dt kX10_firsts 18 rfl) (by decide) ?_
    refine Ev.iadd (am_dt kX10_firsts 19 rfl) ?_
    refine Ev.i2l (am_dt kX10_firsts 20 rfl) ?_
    obtain ⟨f1, k⟩ := k
    refine Ev.ldiv (am_dt kX10_firsts 21 rfl) f1 ?_
    refine Ev.lstore_n (lv' := [(1, .long ((y1 * (2 * (Int32.toInt64 ((2 * x3) - 1)))) / (Int32.toInt64 (x3 + 1)))), (0, .int x0), (3, .int x3)]) (am_dt kX10_firsts 22 rfl) rfl (by decide) rfl ?_
    refine Ev.iinc (v := x3 + 1) (lv' := [(3, .int (x3 + 1)), (1, .long ((y1 * (2 * (Int32.toInt64 ((2 * x3) - 1)))) / (Int32.toInt64 (x3 + 1)))), (0, .int x0)]) 2 (am_dt kX10_firsts 23 rfl) rfl rfl (by decide) rfl ?_
    refine Ev.goto (tgt := 4) (am_dt kX10_firsts 24 rfl) (by decide) ?_
    exact Ev.sub [2, 1, 0] rfl k
set_option maxRecDepth 20000 in
set_option maxHeartbeats 2000000 in
theorem bX10_chance_0 {w : am_W} {d : Nat} {h : am_H} {Q : Option Value → am_H → Prop} {a0 : Nat} {x1 : Int32}  (k : EvM w mX10_firsts d [.int x1] h (fun r2 h1 => ∃ v3 : Int64, r2 = some (.long v3) ∧ (Ev w (am_Z w) mX10_chance (d + 1) 8 [(0, .ref a0), (1, .int x1), (2, .long v3), (4, .int 0)] [] h1 Q))) : EvM w mX10_chance (d + 1) [.ref a0, .int x1] h Q := by
  show Ev w (am_Z w) mX10_chance (d + 1) 0 [(0, .ref a0), (1, .int x1)] [] h Q
  refine Ev.iload_n 1 (am_dt kX10_chance 0 rfl) rfl rfl ?_
  refine Ev.callS (v := mX10_firsts) (As := [.int x1]) (st := []) okX10_firsts wd_770 wd_769 (am_dt kX10_chance 1 rfl) rfl rfl (Nat.le_of_ble_eq_true rfl) (Nat.le_of_ble_eq_true rfl) ?_
  refine EvM.mono k (fun r2 h1 k => ?_)
  obtain ⟨v3, rfl, k⟩ := k
  show Ev w _ _ _ 4 _ [.long v3] _ _
  refine Ev.lstore_n (lv' := [(2, .long v3), (0, .ref a0), (1, .int x1)]) (am_dt kX10_chance 2 rfl) rfl (by decide) rfl ?_
  refine Ev.iconst (v := 0) (am_dt kX10_chance 3 rfl) (by decide) ?_
  refine Ev.istore (lv' := [(4, .int 0), (2, .long v3), (0, .ref a0), (1, .int x1)]) (am_dt kX10_chance 4 rfl) (by decide) rfl ?_
  exact Ev.sub [2, 3, 1, 0] rfl k
set_option maxRecDepth 20000 in
set_option maxHeartbeats 2000000 in
theorem bX10_chance_8 {w : am_W} {d : Nat} {h : am_H} {Q : Option Value → am_H → Prop} {a0 : Nat} {x1 : Int32} {y2 : Int64} {x4 : Int32}  (k : (x1 ≤ x4 → (Ev w (am_Z w) mX10_chance (d + 1) 50 [(0, .ref a0), (2, .long y2), (4, .int (2 * x1))] [] h Q)) ∧ (¬ x1 ≤ x4 → ((am_L 10 a0 h) ∧ ((vp_in 3 (hN h (a0 + 2))) ∧ ((vp_in 4 (hN h (a0 + 2))) ∧ ((vp_in 3 (hN h (a0 + 2))) ∧ (Ev w (am_Z w) mX10_chance (d + 1) 8 [(0, .ref a0), (1, .int x1), (2, .long (y2 * ((Int32.toInt64 (hI h (a0 + 2) (Int32.toNatClampNeg 3))) * (Int32.toInt64 ((hI h (a0 + 2) (Int32.toNatClampNeg 4)) - (hI h (a0 + 2) (Int32.toNatClampNeg 3))))))), (4, .int (x4 + 1))] [] h Q))))))) : Ev w (am_Z w) mX10_chance (d + 1) 8 [(0, .ref a0), (1, .int x1), (2, .long y2), (4, .int x4)] [] h Q := by
  refine Ev.iload 3 (am_dt kX10_chance 5 rfl) rfl ?_
  refine Ev.iload_n 1 (am_dt kX10_chance 6 rfl) rfl rfl ?_
  refine Ev.icmp_ge (tgt := 45) (am_dt kX10_chance 7 rfl) (by decide) (fun c => ?_) (fun c => ?_)
  · have k := k.1 c
    refine Ev.iconst (v := 2) (am_dt kX10_chance 29 rfl) (by decide) ?_
    refine Ev.iload_n 1 (am_dt kX10_chance 30 rfl) rfl rfl ?_
    refine Ev.imul (am_dt kX10_chance 31 rfl) ?_
    refine Ev.istore (lv' := [(4, .int (2 * x1)), (0, .ref a0), (1, .int x1), (2, .long y2)]) (am_dt kX10_chance 32 rfl) (by decide) rfl ?_
    exact Ev.sub [1, 3, 0] rfl k
  · have k := k.2 c
    refine Ev.lload_n 2 (am_dt kX10_chance 8 rfl) rfl rfl ?_
    refine Ev.aload_n 0 (am_dt kX10_chance 9 rfl) rfl rfl ?_
    obtain ⟨f1, k⟩ := k
    refine Ev.getRe (ci := 10) (k := 10) (r := a0 + 2) (am_dt kX10_chance 10 rfl) (by decide) (by decide) rfl wd_543 f1.1 (am_L.r f1 1 rfl) (by omega) ?_
    refine Ev.iconst (v := 3) (am_dt kX10_chance 11 rfl) (by decide) ?_
    obtain ⟨f2, k⟩ := k
    refine Ev.iald (am_dt kX10_chance 12 rfl) (am_L.s f1 1 rfl) f2 ?_
    refine Ev.i2l (am_dt kX10_chance 13 rfl) ?_
    refine Ev.aload_n 0 (am_dt kX10_chance 14 rfl) rfl rfl ?_
    refine Ev.getRe (ci := 10) (k := 10) (r := a0 + 2) (am_dt kX10_chance 15 rfl) (by decide) (by decide) rfl wd_543 f1.1 (am_L.r f1 1 rfl) (by omega) ?_
    refine Ev.iconst (v := 4) (am_dt kX10_chance 16 rfl) (by decide) ?_
    obtain ⟨f3, k⟩ := k
    refine Ev.iald (am_dt kX10_chance 17 rfl) (am_L.s f1 1 rfl) f3 ?_
    refine Ev.aload_n 0 (am_dt kX10_chance 18 rfl) rfl rfl ?_
    refine Ev.getRe (ci := 10) (k := 10) (r := a0 + 2) (am_dt kX10_chance 19 rfl) (by decide) (by decide) rfl wd_543 f1.1 (am_L.r f1 1 rfl) (by omega) ?_
    refine Ev.iconst (v := 3) (am_dt kX10_chance 20 rfl) (by decide) ?_
    obtain ⟨f4, k⟩ := k
    refine Ev.iald (am_dt kX10_chance 21 rfl) (am_L.s f1 1 rfl) f4 ?_
    refine Ev.isub (am_dt kX10_chance 22 rfl) ?_
    refine Ev.i2l (am_dt kX10_chance 23 rfl) ?_
    refine Ev.lmul (am_dt kX10_chance 24 rfl) ?_
    refine Ev.lmul (am_dt kX10_chance 25 rfl) ?_
    refine Ev.lstore_n (lv' := [(2, .long (y2 * ((Int32.toInt64 (hI h (a0 + 2) (Int32.toNatClampNeg 3))) * (Int32.toInt64 ((hI h (a0 + 2) (Int32.toNatClampNeg 4)) - (hI h (a0 + 2) (Int32.toNatClampNeg 3))))))), (0, .ref a0), (1, .int x1), (4, .int x4)]) (am_dt kX10_chance 26 rfl) rfl (by decide) rfl ?_
    refine Ev.iinc (v := x4 + 1) (lv' := [(4, .int (x4 + 1)), (2, .long (y2 * ((Int32.toInt64 (hI h (a0 + 2) (Int32.toNatClampNeg 3))) * (Int32.toInt64 ((hI h (a0 + 2) (Int32.toNatClampNeg 4)) - (hI h (a0 + 2) (Int32.toNatClampNeg 3))))))), (0, .ref a0), (1, .int x1)]) 3 (am_dt kX10_chance 27 rfl) rfl rfl (by decide) rfl ?_
    refine Ev.goto (tgt := 8) (am_dt kX10_chance 28 rfl) (by decide) ?_
    exact Ev.sub [2, 3, 1, 0] rfl k
set_option maxRecDepth 20000 in
set_option maxHeartbeats 2000000 in
theorem bX10_chance_50 {w : am_W} {d : Nat} {h : am_H} {Q : Option Value → am_H → Prop} {a0 : Nat} {y2 : Int64} {x4 : Int32}  (k : (16 ≤ x4 → (Q (some (.long y2)) h)) ∧ (¬ 16 ≤ x4 → ((am_L 10 a0 h) ∧ ((vp_in 4 (hN h (a0 + 2))) ∧ (Ev w (am_Z w) mX10_chance (d + 1) 50 [(0, .ref a0), (2, .long (y2 * (Int32.toInt64 (hI h (a0 + 2) (Int32.toNatClampNeg 4))))), (4, .int (x4 + 1))] [] h Q))))) : Ev w (am_Z w) mX10_chance (d + 1) 50 [(0, .ref a0), (2, .long y2), (4, .int x4)] [] h Q := by
  refine Ev.iload 2 (am_dt kX10_chance 33 rfl) rfl ?_
  refine Ev.bipush (v := 16) (am_dt kX10_chance 34 rfl) (by decide) ?_
  refine Ev.icmp_ge (tgt := 73) (am_dt kX10_chance 35 rfl) (by decide) (fun c => ?_) (fun c => ?_)
  · have k := k.1 c
    refine Ev.lload_n 1 (am_dt kX10_chance 46 rfl) rfl rfl ?_
    exact Ev.lret (am_dt kX10_chance 47 rfl) rfl k
  · have k := k.2 c
    refine Ev.lload_n 1 (am_dt kX10_chance 36 rfl) rfl rfl ?_
    refine Ev.aload_n 0 (am_dt kX10_chance 37 rfl) rfl rfl ?_
    obtain ⟨f1, k⟩ := k
    refine Ev.getRe (ci := 10) (k := 10) (r := a0 + 2) (am_dt kX10_chance 38 rfl) (by decide) (by decide) rfl wd_543 f1.1 (am_L.r f1 1 rfl) (by omega) ?_
    refine Ev.iconst (v := 4) (am_dt kX10_chance 39 rfl) (by decide) ?_
    obtain ⟨f2, k⟩ := k
    refine Ev.iald (am_dt kX10_chance 40 rfl) (am_L.s f1 1 rfl) f2 ?_
    refine Ev.i2l (am_dt kX10_chance 41 rfl) ?_
    refine Ev.lmul (am_dt kX10_chance 42 rfl) ?_
    refine Ev.lstore_n (lv' := [(2, .long (y2 * (Int32.toInt64 (hI h (a0 + 2) (Int32.toNatClampNeg 4))))), (0, .ref a0), (4, .int x4)]) (am_dt kX10_chance 43 rfl) rfl (by decide) rfl ?_
    refine Ev.iinc (v := x4 + 1) (lv' := [(4, .int (x4 + 1)), (2, .long (y2 * (Int32.toInt64 (hI h (a0 + 2) (Int32.toNatClampNeg 4))))), (0, .ref a0)]) 2 (am_dt kX10_chance 44 rfl) rfl rfl (by decide) rfl ?_
    refine Ev.goto (tgt := 50) (am_dt kX10_chance 45 rfl) (by decide) ?_
    exact Ev.sub [2, 1, 0] rfl k
set_option maxRecDepth 20000 in
set_option maxHeartbeats 2000000 in
theorem bX10_likely_0 {w : am_W} {d : Nat} {h : am_H} {Q : Option Value → am_H → Prop} {a0 : Nat} {x1 : Int32} {x2 : Int32}  (k : (am_L 10 a0 h) ∧ (∀ h2 : am_H, h2 = sI h a0 0 0 → (EvM w mX10_within d [.int x1, .int 1, .int 16] h2 (fun r4 h3 => ∃ v5 : Int32, r4 = some (.int v5) ∧ ((v5 = 0 → (Q (some (.long ((-1)))) h3)) ∧ (¬ v5 = 0 → (EvM w mX10_within d [.int x2, .int 0, .int 1] h3 (fun r7 h6 => ∃ v8 : Int32, r7 = some (.int v8) ∧ ((v8 = 0 → (Q (some (.long ((-1)))) h6)) ∧ (¬ v8 = 0 → (Ev w (am_Z w) mX10_likely (d + 1) 36 [(0, .ref a0), (1, .int x1), (2, .int x2), (3, .long 0), (5, .long 1), (7, .int 0)] [] h6 Q))))))))))) : EvM w mX10_likely (d + 1) [.ref a0, .int x1, .int x2] h Q := by
  show Ev w (am_Z w) mX10_likely (d + 1) 0 [(0, .ref a0), (1, .int x1), (2, .int x2)] [] h Q
  refine Ev.aload_n 0 (am_dt kX10_likely 0 rfl) rfl rfl ?_
  refine Ev.iconst (v := 0) (am_dt kX10_likely 1 rfl) (by decide) ?_
  obtain ⟨f1, k⟩ := k
  refine Ev.putI' (ci := 10) (k := 0) (am_dt kX10_likely 2 rfl) (by decide) (by decide) wd_583 rfl rfl rfl rfl f1.1 (fun h2 eh2 => ?_)
  have k := k h2 eh2
  have f1 := am_LsI eh2 f1
  refine Ev.iload_n 1 (am_dt kX10_likely 3 rfl) rfl rfl ?_
  refine Ev.iconst (v := 1) (am_dt kX10_likely 4 rfl) (by decide) ?_
  refine Ev.bipush (v := 16) (am_dt kX10_likely 5 rfl) (by decide) ?_
  refine Ev.callS (v := mX10_within) (As := [.int x1, .int 1, .int 16]) (st := []) okX10_within wd_653 wd_652 (am_dt kX10_likely 6 rfl) rfl rfl (Nat.le_of_ble_eq_true rfl) (Nat.le_of_ble_eq_true rfl) ?_
  refine EvM.mono k (fun r4 h3 k => ?_)
  obtain ⟨v5, rfl, k⟩ := k
  show Ev w _ _ _ 12 _ [.int v5] _ _
  refine Ev.if_eq (tgt := 24) (am_dt kX10_likely 7 rfl) (by decide) (fun c => ?_) (fun c => ?_)
  · have k := k.1 c
    refine Ev.ldc2 (v := (-1)) (am_dt kX10_likely 13 rfl) wd_771 ?_
    exact Ev.lret (am_dt kX10_likely 14 rfl) rfl k
  · have k := k.2 c
    refine Ev.iload_n 2 (am_dt kX10_likely 8 rfl) rfl rfl ?_
    refine Ev.iconst (v := 0) (am_dt kX10_likely 9 rfl) (by decide) ?_
    refine Ev.iconst (v := 1) (am_dt kX10_likely 10 rfl) (by decide) ?_
    refine Ev.callS (v := mX10_within) (As := [.int x2, .int 0, .int 1]) (st := []) okX10_within wd_653 wd_652 (am_dt kX10_likely 11 rfl) rfl rfl (Nat.le_of_ble_eq_true rfl) (Nat.le_of_ble_eq_true rfl) ?_
    refine EvM.mono k (fun r7 h6 k => ?_)
    obtain ⟨v8, rfl, k⟩ := k
    show Ev w _ _ _ 21 _ [.int v8] _ _
    refine Ev.if_ne (tgt := 28) (am_dt kX10_likely 12 rfl) (by decide) (fun c => ?_) (fun c => ?_)
    · have k := k.2 c
      refine Ev.lconst (v := 0) (am_dt kX10_likely 15 rfl) (by decide) ?_
      refine Ev.lstore_n (lv' := [(3, .long 0), (0, .ref a0), (1, .int x1), (2, .int x2)]) (am_dt kX10_likely 16 rfl) rfl (by decide) rfl ?_
      refine Ev.lconst (v := 1) (am_dt kX10_likely 17 rfl) (by decide) ?_
      refine Ev.lstore (lv' := [(5, .long 1), (3, .long 0), (0, .ref a0), (1, .int x1), (2, .int x2)]) (am_dt kX10_likely 18 rfl) (by decide) rfl ?_
      refine Ev.iconst (v := 0) (am_dt kX10_likely 19 rfl) (by decide) ?_
      refine Ev.istore (lv' := [(7, .int 0), (5, .long 1), (3, .long 0), (0, .ref a0), (1, .int x1), (2, .int x2)]) (am_dt kX10_likely 20 rfl) (by decide) rfl ?_
      exact Ev.sub [3, 4, 5, 2, 1, 0] rfl k
    · have k := k.1 c
      refine Ev.ldc2 (v := (-1)) (am_dt kX10_likely 13 rfl) wd_771 ?_
      exact Ev.lret (am_dt kX10_likely 14 rfl) rfl k
set_option maxRecDepth 20000 in
set_option maxHeartbeats 2000000 in
theorem bX10_likely_36 {w : am_W} {d : Nat} {h : am_H} {Q : Option Value → am_H → Prop} {a0 : Nat} {x1 : Int32} {x2 : Int32} {y3 : Int64} {y5 : Int64} {x7 : Int32}  (k : (16 ≤ x7 → (Ev w (am_Z w) mX10_likely (d + 1) 64 [(0, .ref a0), (1, .int x1), (2, .int x2), (3, .long y3), (5, .long y5), (7, .int 1)] [] h Q)) ∧ (¬ 16 ≤ x7 → ((am_L 10 a0 h) ∧ ((vp_in 4 (hN h (a0 + 2))) ∧ (Ev w (am_Z w) mX10_likely (d + 1) 36 [(0, .ref a0), (1, .int x1), (2, .int x2), (3, .long y3), (5, .long (y5 * (Int32.toInt64 (hI h (a0 + 2) (Int32.toNatClampNeg 4))))), (7, .int (x7 + 1))] [] h Q))))) : Ev w (am_Z w) mX10_likely (d + 1) 36 [(0, .ref a0), (1, .int x1), (2, .int x2), (3, .long y3), (5, .long y5), (7, .int x7)] [] h Q := by
  refine Ev.iload 5 (am_dt kX10_likely 21 rfl) rfl ?_
  refine Ev.bipush (v := 16) (am_dt kX10_likely 22 rfl) (by decide) ?_
  refine Ev.icmp_ge (tgt := 61) (am_dt kX10_likely 23 rfl) (by decide) (fun c => ?_) (fun c => ?_)
  · have k := k.1 c
    refine Ev.iconst (v := 1) (am_dt kX10_likely 34 rfl) (by decide) ?_
    refine Ev.istore (lv' := [(7, .int 1), (0, .ref a0), (1, .int x1), (2, .int x2), (3, .long y3), (5, .long y5)]) (am_dt kX10_likely 35 rfl) (by decide) rfl ?_
    exact Ev.sub [1, 2, 3, 4, 5, 0] rfl k
  · have k := k.2 c
    refine Ev.lload 4 (am_dt kX10_likely 24 rfl) rfl ?_
    refine Ev.aload_n 0 (am_dt kX10_likely 25 rfl) rfl rfl ?_
    obtain ⟨f1, k⟩ := k
    refine Ev.getRe (ci := 10) (k := 10) (r := a0 + 2) (am_dt kX10_likely 26 rfl) (by decide) (by decide) rfl wd_543 f1.1 (am_L.r f1 1 rfl) (by omega) ?_
    refine Ev.iconst (v := 4) (am_dt kX10_likely 27 rfl) (by decide) ?_
    obtain ⟨f2, k⟩ := k
    refine Ev.iald (am_dt kX10_likely 28 rfl) (am_L.s f1 1 rfl) f2 ?_
    refine Ev.i2l (am_dt kX10_likely 29 rfl) ?_
    refine Ev.lmul (am_dt kX10_likely 30 rfl) ?_
    refine Ev.lstore (lv' := [(5, .long (y5 * (Int32.toInt64 (hI h (a0 + 2) (Int32.toNatClampNeg 4))))), (0, .ref a0), (1, .int x1), (2, .int x2), (3, .long y3), (7, .int x7)]) (am_dt kX10_likely 31 rfl) (by decide) rfl ?_
    refine Ev.iinc (v := x7 + 1) (lv' := [(7, .int (x7 + 1)), (5, .long (y5 * (Int32.toInt64 (hI h (a0 + 2) (Int32.toNatClampNeg 4))))), (0, .ref a0), (1, .int x1), (2, .int x2), (3, .long y3)]) 5 (am_dt kX10_likely 32 rfl) rfl rfl (by decide) rfl ?_
    refine Ev.goto (tgt := 36) (am_dt kX10_likely 33 rfl) (by decide) ?_
    exact Ev.sub [2, 3, 4, 5, 1, 0] rfl k
set_option maxRecDepth 20000 in
set_option maxHeartbeats 2000000 in
theorem bX10_likely_64 {w : am_W} {d : Nat} {h : am_H} {Q : Option Value → am_H → Prop} {a0 : Nat} {x1 : Int32} {x2 : Int32} {y3 : Int64} {y5 : Int64} {x7 : Int32}  (k : (x1 < (2 * x7) → ((x2 = 0 → (EvM w mX10_gcd d [.long y3, .long y5] h (fun r2 h1 => ∃ v3 : Int64, r2 = some (.long v3) ∧ ((¬ v3 = 0) ∧ (Q (some (.long (y3 / v3))) h1))))) ∧ (¬ x2 = 0 → (EvM w mX10_gcd d [.long y3, .long y5] h (fun r6 h5 => ∃ v7 : Int64, r6 = some (.long v7) ∧ ((¬ v7 = 0) ∧ (Q (some (.long (y5 / v7))) h5))))))) ∧ (¬ x1 < (2 * x7) → ((am_L 10 a0 h) ∧ (EvM w mX10_chance d [.ref a0, .int x7] h (fun r11 h10 => ∃ v12 : Int64, r11 = some (.long v12) ∧ (Ev w (am_Z w) mX10_likely (d + 1) 64 [(0, .ref a0), (1, .int x1), (2, .int x2), (3, .long (y3 + v12)), (5, .long y5), (7, .int (x7 + 1))] [] h10 Q)))))) : Ev w (am_Z w) mX10_likely (d + 1) 64 [(0, .ref a0), (1, .int x1), (2, .int x2), (3, .long y3), (5, .long y5), (7, .int x7)] [] h Q := by
  refine Ev.iconst (v := 2) (am_dt kX10_likely 36 rfl) (by decide) ?_
  refine Ev.iload 5 (am_dt kX10_likely 37 rfl) rfl ?_
  refine Ev.imul (am_dt kX10_likely 38 rfl) ?_
  refine Ev.iload_n 1 (am_dt kX10_likely 39 rfl) rfl rfl ?_
  refine Ev.icmp_gt (tgt := 87) (am_dt kX10_likely 40 rfl) (by decide) (fun c => ?_) (fun c => ?_)
  · have k := k.1 c
    refine Ev.iload_n 2 (am_dt kX10_likely 49 rfl) rfl rfl ?_
    refine Ev.if_ne (tgt := 95) (am_dt kX10_likely 50 rfl) (by decide) (fun c => ?_) (fun c => ?_)
    · have k := k.2 c
      refine Ev.lload 4 (am_dt kX10_likely 53 rfl) rfl ?_
      refine Ev.lload_n 3 (am_dt kX10_likely 54 rfl) rfl rfl ?_
      refine Ev.lload 4 (am_dt kX10_likely 55 rfl) rfl ?_
      refine Ev.callS (v := mX10_gcd) (As := [.long y3, .long y5]) (st := [.long y5]) okX10_gcd wd_773 wd_772 (am_dt kX10_likely 56 rfl) rfl rfl (Nat.le_of_ble_eq_true rfl) (Nat.le_of_ble_eq_true rfl) ?_
      refine EvM.mono k (fun r6 h5 k => ?_)
      obtain ⟨v7, rfl, k⟩ := k
      show Ev w _ _ _ 103 _ [.long v7, .long y5] _ _
      obtain ⟨f8, k⟩ := k
      refine Ev.ldiv (am_dt kX10_likely 57 rfl) f8 ?_
      exact Ev.lret (am_dt kX10_likely 58 rfl) rfl k
    · have k := k.1 c
      refine Ev.lload_n 3 (am_dt kX10_likely 51 rfl) rfl rfl ?_
      refine Ev.goto (tgt := 97) (am_dt kX10_likely 52 rfl) (by decide) ?_
      refine Ev.lload_n 3 (am_dt kX10_likely 54 rfl) rfl rfl ?_
      refine Ev.lload 4 (am_dt kX10_likely 55 rfl) rfl ?_
      refine Ev.callS (v := mX10_gcd) (As := [.long y3, .long y5]) (st := [.long y3]) okX10_gcd wd_773 wd_772 (am_dt kX10_likely 56 rfl) rfl rfl (Nat.le_of_ble_eq_true rfl) (Nat.le_of_ble_eq_true rfl) ?_
      refine EvM.mono k (fun r2 h1 k => ?_)
      obtain ⟨v3, rfl, k⟩ := k
      show Ev w _ _ _ 103 _ [.long v3, .long y3] _ _
      obtain ⟨f4, k⟩ := k
      refine Ev.ldiv (am_dt kX10_likely 57 rfl) f4 ?_
      exact Ev.lret (am_dt kX10_likely 58 rfl) rfl k
  · have k := k.2 c
    refine Ev.lload_n 3 (am_dt kX10_likely 41 rfl) rfl rfl ?_
    refine Ev.aload_n 0 (am_dt kX10_likely 42 rfl) rfl rfl ?_
    refine Ev.iload 5 (am_dt kX10_likely 43 rfl) rfl ?_
    obtain ⟨f9, k⟩ := k
    refine Ev.callV (ci := 10) (v := mX10_chance) (As := [.int x7]) (st := [.long y3]) okX10_chance wd_774 wd_775 wd_776 (am_dt kX10_likely 44 rfl) (by decide) rfl rfl (Nat.le_of_ble_eq_true rfl) (Nat.le_of_ble_eq_true rfl) f9.1 ?_
    refine EvM.mono k (fun r11 h10 k => ?_)
    obtain ⟨v12, rfl, k⟩ := k
    show Ev w _ _ _ 79 _ [.long v12, .long y3] _ _
    refine Ev.ladd (am_dt kX10_likely 45 rfl) ?_
    refine Ev.lstore_n (lv' := [(3, .long (y3 + v12)), (0, .ref a0), (1, .int x1), (2, .int x2), (5, .long y5), (7, .int x7)]) (am_dt kX10_likely 46 rfl) rfl (by decide) rfl ?_
    refine Ev.iinc (v := x7 + 1) (lv' := [(7, .int (x7 + 1)), (3, .long (y3 + v12)), (0, .ref a0), (1, .int x1), (2, .int x2), (5, .long y5)]) 5 (am_dt kX10_likely 47 rfl) rfl rfl (by decide) rfl ?_
    refine Ev.goto (tgt := 64) (am_dt kX10_likely 48 rfl) (by decide) ?_
    exact Ev.sub [2, 3, 4, 1, 5, 0] rfl k
set_option maxRecDepth 20000 in
set_option maxHeartbeats 2000000 in
theorem bX10_mean_0 {w : am_W} {d : Nat} {h : am_H} {Q : Option Value → am_H → Prop} {a0 : Nat} {x1 : Int32} {x2 : Int32}  (k : (am_L 10 a0 h) ∧ (∀ h2 : am_H, h2 = sI h a0 0 0 → (EvM w mX10_within d [.int x1, .int 2, .int 16] h2 (fun r4 h3 => ∃ v5 : Int32, r4 = some (.int v5) ∧ ((v5 = 0 → (Q (some (.long ((-1)))) h3)) ∧ (¬ v5 = 0 → (EvM w mX10_within d [.int x2, .int 0, .int 1] h3 (fun r7 h6 => ∃ v8 : Int32, r7 = some (.int v8) ∧ ((v8 = 0 → (Q (some (.long ((-1)))) h6)) ∧ (¬ v8 = 0 → (Ev w (am_Z w) mX10_mean (d + 1) 36 [(0, .ref a0), (1, .int x1), (2, .int x2), (3, .long 0), (5, .long 0), (7, .int 1)] [] h6 Q))))))))))) : EvM w mX10_mean (d + 1) [.ref a0, .int x1, .int x2] h Q := by
  show Ev w (am_Z w) mX10_mean (d + 1) 0 [(0, .ref a0), (1, .int x1), (2, .int x2)] [] h Q
  refine Ev.aload_n 0 (am_dt kX10_mean 0 rfl) rfl rfl ?_
  refine Ev.iconst (v := 0) (am_dt kX10_mean 1 rfl) (by decide) ?_
  obtain ⟨f1, k⟩ := k
  refine Ev.putI' (ci := 10) (k := 0) (am_dt kX10_mean 2 rfl) (by decide) (by decide) wd_583 rfl rfl rfl rfl f1.1 (fun h2 eh2 => ?_)
  have k := k h2 eh2
  have f1 := am_LsI eh2 f1
  refine Ev.iload_n 1 (am_dt kX10_mean 3 rfl) rfl rfl ?_
  refine Ev.iconst (v := 2) (am_dt kX10_mean 4 rfl) (by decide) ?_
  refine Ev.bipush (v := 16) (am_dt kX10_mean 5 rfl) (by decide) ?_
  refine Ev.callS (v := mX10_within) (As := [.int x1, .int 2, .int 16]) (st := []) okX10_within wd_653 wd_652 (am_dt kX10_mean 6 rfl) rfl rfl (Nat.le_of_ble_eq_true rfl) (Nat.le_of_ble_eq_true rfl) ?_
  refine EvM.mono k (fun r4 h3 k => ?_)
  obtain ⟨v5, rfl, k⟩ := k
  show Ev w _ _ _ 12 _ [.int v5] _ _
  refine Ev.if_eq (tgt := 24) (am_dt kX10_mean 7 rfl) (by decide) (fun c => ?_) (fun c => ?_)
  · have k := k.1 c
    refine Ev.ldc2 (v := (-1)) (am_dt kX10_mean 13 rfl) wd_771 ?_
    exact Ev.lret (am_dt kX10_mean 14 rfl) rfl k
  · have k := k.2 c
    refine Ev.iload_n 2 (am_dt kX10_mean 8 rfl) rfl rfl ?_
    refine Ev.iconst (v := 0) (am_dt kX10_mean 9 rfl) (by decide) ?_
    refine Ev.iconst (v := 1) (am_dt kX10_mean 10 rfl) (by decide) ?_
    refine Ev.callS (v := mX10_within) (As := [.int x2, .int 0, .int 1]) (st := []) okX10_within wd_653 wd_652 (am_dt kX10_mean 11 rfl) rfl rfl (Nat.le_of_ble_eq_true rfl) (Nat.le_of_ble_eq_true rfl) ?_
    refine EvM.mono k (fun r7 h6 k => ?_)
    obtain ⟨v8, rfl, k⟩ := k
    show Ev w _ _ _ 21 _ [.int v8] _ _
    refine Ev.if_ne (tgt := 28) (am_dt kX10_mean 12 rfl) (by decide) (fun c => ?_) (fun c => ?_)
    · have k := k.2 c
      refine Ev.lconst (v := 0) (am_dt kX10_mean 15 rfl) (by decide) ?_
      refine Ev.lstore_n (lv' := [(3, .long 0), (0, .ref a0), (1, .int x1), (2, .int x2)]) (am_dt kX10_mean 16 rfl) rfl (by decide) rfl ?_
      refine Ev.lconst (v := 0) (am_dt kX10_mean 17 rfl) (by decide) ?_
      refine Ev.lstore (lv' := [(5, .long 0), (3, .long 0), (0, .ref a0), (1, .int x1), (2, .int x2)]) (am_dt kX10_mean 18 rfl) (by decide) rfl ?_
      refine Ev.iconst (v := 1) (am_dt kX10_mean 19 rfl) (by decide) ?_
      refine Ev.istore (lv' := [(7, .int 1), (5, .long 0), (3, .long 0), (0, .ref a0), (1, .int x1), (2, .int x2)]) (am_dt kX10_mean 20 rfl) (by decide) rfl ?_
      exact Ev.sub [3, 4, 5, 2, 1, 0] rfl k
    · have k := k.1 c
      refine Ev.ldc2 (v := (-1)) (am_dt kX10_mean 13 rfl) wd_771 ?_
      exact Ev.lret (am_dt kX10_mean 14 rfl) rfl k
set_option maxRecDepth 20000 in
set_option maxHeartbeats 2000000 in
theorem bX10_mean_36 {w : am_W} {d : Nat} {h : am_H} {Q : Option Value → am_H → Prop} {a0 : Nat} {x1 : Int32} {x2 : Int32} {y3 : Int64} {y5 : Int64} {x7 : Int32}  (k : (x1 < (2 * x7) → ((x2 = 0 → (EvM w mX10_gcd d [.long y3, .long y5] h (fun r2 h1 => ∃ v3 : Int64, r2 = some (.long v3) ∧ ((¬ v3 = 0) ∧ (Q (some (.long (y3 / v3))) h1))))) ∧ (¬ x2 = 0 → (EvM w mX10_gcd d [.long y3, .long y5] h (fun r6 h5 => ∃ v7 : Int64, r6 = some (.long v7) ∧ ((¬ v7 = 0) ∧ (Q (some (.long (y5 / v7))) h5))))))) ∧ (¬ x1 < (2 * x7) → ((am_L 10 a0 h) ∧ (EvM w mX10_chance d [.ref a0, .int x7] h (fun r11 h10 => ∃ v12 : Int64, r11 = some (.long v12) ∧ ((am_L 10 a0 h10) ∧ (EvM w mX10_chance d [.ref a0, .int x7] h10 (fun r15 h14 => ∃ v16 : Int64, r15 = some (.long v16) ∧ (Ev w (am_Z w) mX10_mean (d + 1) 36 [(0, .ref a0), (1, .int x1), (2, .int x2), (3, .long (y3 + ((2 * (Int32.toInt64 x7)) * v12))), (5, .long (y5 + v16)), (7, .int (x7 + 1))] [] h14 Q))))))))) : Ev w (am_Z w) mX10_mean (d + 1) 36 [(0, .ref a0), (1, .int x1), (2, .int x2), (3, .long y3), (5, .long y5), (7, .int x7)] [] h Q := by
  refine Ev.iconst (v := 2) (am_dt kX10_mean 21 rfl) (by decide) ?_
  refine Ev.iload 5 (am_dt kX10_mean 22 rfl) rfl ?_
  refine Ev.imul (am_dt kX10_mean 23 rfl) ?_
  refine Ev.iload_n 1 (am_dt kX10_mean 24 rfl) rfl rfl ?_
  refine Ev.icmp_gt (tgt := 78) (am_dt kX10_mean 25 rfl) (by decide) (fun c => ?_) (fun c => ?_)
  · have k := k.1 c
    refine Ev.iload_n 2 (am_dt kX10_mean 45 rfl) rfl rfl ?_
    refine Ev.if_ne (tgt := 86) (am_dt kX10_mean 46 rfl) (by decide) (fun c => ?_) (fun c => ?_)
    · have k := k.2 c
      refine Ev.lload 4 (am_dt kX10_mean 49 rfl) rfl ?_
      refine Ev.lload_n 3 (am_dt kX10_mean 50 rfl) rfl rfl ?_
      refine Ev.lload 4 (am_dt kX10_mean 51 rfl) rfl ?_
      refine Ev.callS (v := mX10_gcd) (As := [.long y3, .long y5]) (st := [.long y5]) okX10_gcd wd_773 wd_772 (am_dt kX10_mean 52 rfl) rfl rfl (Nat.le_of_ble_eq_true rfl) (Nat.le_of_ble_eq_true rfl) ?_
      refine EvM.mono k (fun r6 h5 k => ?_)
      obtain ⟨v7, rfl, k⟩ := k
      show Ev w _ _ _ 94 _ [.long v7, .long y5] _ _
      obtain ⟨f8, k⟩ := k
      refine Ev.ldiv (am_dt kX10_mean 53 rfl) f8 ?_
      exact Ev.lret (am_dt kX10_mean 54 rfl) rfl k
    · have k := k.1 c
      refine Ev.lload_n 3 (am_dt kX10_mean 47 rfl) rfl rfl ?_
      refine Ev.goto (tgt := 88) (am_dt kX10_mean 48 rfl) (by decide) ?_
      refine Ev.lload_n 3 (am_dt kX10_mean 50 rfl) rfl rfl ?_
      refine Ev.lload 4 (am_dt kX10_mean 51 rfl) rfl ?_
      refine Ev.callS (v := mX10_gcd) (As := [.long y3, .long y5]) (st := [.long y3]) okX10_gcd wd_773 wd_772 (am_dt kX10_mean 52 rfl) rfl rfl (Nat.le_of_ble_eq_true rfl) (Nat.le_of_ble_eq_true rfl) ?_
      refine EvM.mono k (fun r2 h1 k => ?_)
      obtain ⟨v3, rfl, k⟩ := k
      show Ev w _ _ _ 94 _ [.long v3, .long y3] _ _
      obtain ⟨f4, k⟩ := k
      refine Ev.ldiv (am_dt kX10_mean 53 rfl) f4 ?_
      exact Ev.lret (am_dt kX10_mean 54 rfl) rfl k
  · have k := k.2 c
    refine Ev.lload_n 3 (am_dt kX10_mean 26 rfl) rfl rfl ?_
    refine Ev.ldc2 (v := 2) (am_dt kX10_mean 27 rfl) wd_768 ?_
    refine Ev.iload 5 (am_dt kX10_mean 28 rfl) rfl ?_
    refine Ev.i2l (am_dt kX10_mean 29 rfl) ?_
    refine Ev.lmul (am_dt kX10_mean 30 rfl) ?_
    refine Ev.aload_n 0 (am_dt kX10_mean 31 rfl) rfl rfl ?_
    refine Ev.iload 5 (am_dt kX10_mean 32 rfl) rfl ?_
    obtain ⟨f9, k⟩ := k
    refine Ev.callV (ci := 10) (v := mX10_chance) (As := [.int x7]) (st := [.long (2 * (Int32.toInt64 x7)), .long y3]) okX10_chance wd_774 wd_775 wd_776 (am_dt kX10_mean 33 rfl) (by decide) rfl rfl (Nat.le_of_ble_eq_true rfl) (Nat.le_of_ble_eq_true rfl) f9.1 ?_
    refine EvM.mono k (fun r11 h10 k => ?_)
    obtain ⟨v12, rfl, k⟩ := k
    show Ev w _ _ _ 58 _ [.long v12, .long (2 * (Int32.toInt64 x7)), .long y3] _ _
    refine Ev.lmul (am_dt kX10_mean 34 rfl) ?_
    refine Ev.ladd (am_dt kX10_mean 35 rfl) ?_
    refine Ev.lstore_n (lv' := [(3, .long (y3 + ((2 * (Int32.toInt64 x7)) * v12))), (0, .ref a0), (1, .int x1), (2, .int x2), (5, .long y5), (7, .int x7)]) (am_dt kX10_mean 36 rfl) rfl (by decide) rfl ?_
    refine Ev.lload 4 (am_dt kX10_mean 37 rfl) rfl ?_
    refine Ev.aload_n 1 (am_dt kX10_mean 38 rfl) rfl rfl ?_
    refine Ev.iload 5 (am_dt kX10_mean 39 rfl) rfl ?_
    obtain ⟨f13, k⟩ := k
    refine Ev.callV (ci := 10) (v := mX10_chance) (As := [.int x7]) (st := [.long y5]) okX10_chance wd_774 wd_775 wd_776 (am_dt kX10_mean 40 rfl) (by decide) rfl rfl (Nat.le_of_ble_eq_true rfl) (Nat.le_of_ble_eq_true rfl) f13.1 ?_
    refine EvM.mono k (fun r15 h14 k => ?_)
    obtain ⟨v16, rfl, k⟩ := k
    show Ev w _ _ _ 69 _ [.long v16, .long y5] _ _
    refine Ev.ladd (am_dt kX10_mean 41 rfl) ?_
    refine Ev.lstore (lv' := [(5, .long (y5 + v16)), (3, .long (y3 + ((2 * (Int32.toInt64 x7)) * v12))), (0, .ref a0), (1, .int x1), (2, .int x2), (7, .int x7)]) (am_dt kX10_mean 42 rfl) (by decide) rfl ?_
    refine Ev.iinc (v := x7 + 1) (lv' := [(7, .int (x7 + 1)), (5, .long (y5 + v16)), (3, .long (y3 + ((2 * (Int32.toInt64 x7)) * v12))), (0, .ref a0), (1, .int x1), (2, .int x2)]) 5 (am_dt kX10_mean 43 rfl) rfl rfl (by decide) rfl ?_
    refine Ev.goto (tgt := 36) (am_dt kX10_mean 44 rfl) (by decide) ?_
    exact Ev.sub [3, 4, 5, 2, 1, 0] rfl k
set_option maxRecDepth 20000 in
set_option maxHeartbeats 2000000 in
theorem bX10_came_0 {w : am_W} {d : Nat} {h : am_H} {Q : Option Value → am_H → Prop} {a0 : Nat} {x1 : Int32}  (k : (am_L 10 a0 h) ∧ (∀ h2 : am_H, h2 = sI h a0 0 0 → (EvM w mX10_within d [.int x1, .int 1, .int 15] h2 (fun r4 h3 => ∃ v5 : Int32, r4 = some (.int v5) ∧ ((v5 = 0 → (Q (some (.long ((-1)))) h3)) ∧ (¬ v5 = 0 → (EvM w mX10_firsts d [.int x1] h3 (fun r7 h6 => ∃ v8 : Int64, r7 = some (.long v8) ∧ (Q (some (.long v8)) h6))))))))) : EvM w mX10_came (d + 1) [.ref a0, .int x1] h Q := by
  show Ev w (am_Z w) mX10_came (d + 1) 0 [(0, .ref a0), (1, .int x1)] [] h Q
  refine Ev.aload_n 0 (am_dt kX10_came 0 rfl) rfl rfl ?_
  refine Ev.iconst (v := 0) (am_dt kX10_came 1 rfl) (by decide) ?_
  obtain ⟨f1, k⟩ := k
  refine Ev.putI' (ci := 10) (k := 0) (am_dt kX10_came 2 rfl) (by decide) (by decide) wd_583 rfl rfl rfl rfl f1.1 (fun h2 eh2 => ?_)
  have k := k h2 eh2
  have f1 := am_LsI eh2 f1
  refine Ev.iload_n 1 (am_dt kX10_came 3 rfl) rfl rfl ?_
  refine Ev.iconst (v := 1) (am_dt kX10_came 4 rfl) (by decide) ?_
  refine Ev.bipush (v := 15) (am_dt kX10_came 5 rfl) (by decide) ?_
  refine Ev.callS (v := mX10_within) (As := [.int x1, .int 1, .int 15]) (st := []) okX10_within wd_653 wd_652 (am_dt kX10_came 6 rfl) rfl rfl (Nat.le_of_ble_eq_true rfl) (Nat.le_of_ble_eq_true rfl) ?_
  refine EvM.mono k (fun r4 h3 k => ?_)
  obtain ⟨v5, rfl, k⟩ := k
  show Ev w _ _ _ 12 _ [.int v5] _ _
  refine Ev.if_eq (tgt := 22) (am_dt kX10_came 7 rfl) (by decide) (fun c => ?_) (fun c => ?_)
  · have k := k.1 c
    refine Ev.ldc2 (v := (-1)) (am_dt kX10_came 11 rfl) wd_771 ?_
    exact Ev.lret (am_dt kX10_came 12 rfl) rfl k
  · have k := k.2 c
    refine Ev.iload_n 1 (am_dt kX10_came 8 rfl) rfl rfl ?_
    refine Ev.callS (v := mX10_firsts) (As := [.int x1]) (st := []) okX10_firsts wd_770 wd_769 (am_dt kX10_came 9 rfl) rfl rfl (Nat.le_of_ble_eq_true rfl) (Nat.le_of_ble_eq_true rfl) ?_
    refine EvM.mono k (fun r7 h6 k => ?_)
    obtain ⟨v8, rfl, k⟩ := k
    show Ev w _ _ _ 19 _ [.long v8] _ _
    refine Ev.goto (tgt := 25) (am_dt kX10_came 10 rfl) (by decide) ?_
    exact Ev.lret (am_dt kX10_came 12 rfl) rfl k
set_option maxRecDepth 20000 in
set_option maxHeartbeats 2000000 in
theorem bX10_draws_0 {w : am_W} {d : Nat} {h : am_H} {Q : Option Value → am_H → Prop} {a0 : Nat} {x1 : Int32}  (k : (am_L 10 a0 h) ∧ (∀ h2 : am_H, h2 = sJ h a0 53 ((((hJ h a0 53) * 1103515245) + 12345) - (((hJ h a0 53) * 1103515245) + 12345) / 2147483648 * 2147483648) → ((¬ (Int32.toInt64 x1) = 0) ∧ (Q (some (.int (Int64.toInt32 (((hJ h2 a0 53) / 65536) - ((hJ h2 a0 53) / 65536) / (Int32.toInt64 x1) * (Int32.toInt64 x1))))) h2)))) : EvM w mX10_draws d [.ref a0, .int x1] h Q := by
  show Ev w (am_Z w) mX10_draws d 0 [(0, .ref a0), (1, .int x1)] [] h Q
  refine Ev.aload_n 0 (am_dt kX10_draws 0 rfl) rfl rfl ?_
  refine Ev.aload_n 0 (am_dt kX10_draws 1 rfl) rfl rfl ?_
  obtain ⟨f1, k⟩ := k
  refine Ev.getJ (ci := 10) (k := 53) (am_dt kX10_draws 2 rfl) (by decide) (by decide) rfl wd_777 f1.1 ?_
  refine Ev.ldc2 (v := 1103515245) (am_dt kX10_draws 3 rfl) wd_778 ?_
  refine Ev.lmul (am_dt kX10_draws 4 rfl) ?_
  refine Ev.ldc2 (v := 12345) (am_dt kX10_draws 5 rfl) wd_779 ?_
  refine Ev.ladd (am_dt kX10_draws 6 rfl) ?_
  refine Ev.ldc2 (v := 2147483648) (am_dt kX10_draws 7 rfl) wd_780 ?_
  refine Ev.lrem (am_dt kX10_draws 8 rfl) (by decide) ?_
  refine Ev.putJ' (ci := 10) (k := 53) (am_dt kX10_draws 9 rfl) (by decide) (by decide) wd_777 rfl rfl rfl rfl f1.1 (fun h2 eh2 => ?_)
  have k := k h2 eh2
  have f1 := am_LsJ eh2 f1
  refine Ev.aload_n 0 (am_dt kX10_draws 10 rfl) rfl rfl ?_
  refine Ev.getJ (ci := 10) (k := 53) (am_dt kX10_draws 11 rfl) (by decide) (by decide) rfl wd_777 f1.1 ?_
  refine Ev.ldc2 (v := 65536) (am_dt kX10_draws 12 rfl) wd_781 ?_
  refine Ev.ldiv (am_dt kX10_draws 13 rfl) (by decide) ?_
  refine Ev.iload_n 1 (am_dt kX10_draws 14 rfl) rfl rfl ?_
  refine Ev.i2l (am_dt kX10_draws 15 rfl) ?_
  obtain ⟨f3, k⟩ := k
  refine Ev.lrem (am_dt kX10_draws 16 rfl) f3 ?_
  refine Ev.l2i (am_dt kX10_draws 17 rfl) ?_
  exact Ev.iret .int (am_dt kX10_draws 18 rfl) rfl rfl k
set_option maxRecDepth 20000 in
set_option maxHeartbeats 2000000 in
theorem bX10_lots_0 {w : am_W} {d : Nat} {h : am_H} {Q : Option Value → am_H → Prop} {a0 : Nat} {x1 : Int32} {x2 : Int32} {x3 : Int32}  (k : (am_L 10 a0 h) ∧ (∀ h2 : am_H, h2 = sI h a0 0 0 → (EvM w mX10_within d [.int x1, .int 0, .int 9999] h2 (fun r4 h3 => ∃ v5 : Int32, r4 = some (.int v5) ∧ ((v5 = 0 → (Q (some (.int ((-1)))) h3)) ∧ (¬ v5 = 0 → (EvM w mX10_within d [.int x2, .int 1, .int 50] h3 (fun r7 h6 => ∃ v8 : Int32, r7 = some (.int v8) ∧ ((v8 = 0 → (Q (some (.int ((-1)))) h6)) ∧ (¬ v8 = 0 → (EvM w mX10_within d [.int x3, .int 0, .int 4] h6 (fun r10 h9 => ∃ v11 : Int32, r10 = some (.int v11) ∧ ((v11 = 0 → (Q (some (.int ((-1)))) h9)) ∧ (¬ v11 = 0 → ((am_L 10 a0 h9) ∧ (∀ h13 : am_H, h13 = sJ h9 a0 53 (Int32.toInt64 x1) → (Ev w (am_Z w) mX10_lots (d + 1) 61 [(0, .ref a0), (2, .int x2), (3, .int x3), (4, .int 0), (5, .int 0), (6, .int 0), (7, .int 0), (8, .int 0), (9, .int 0)] [] h13 Q))))))))))))))))) : EvM w mX10_lots (d + 1) [.ref a0, .int x1, .int x2, .int x3] h Q := by
  show Ev w (am_Z w) mX10_lots (d + 1) 0 [(0, .ref a0), (1, .int x1), (2, .int x2), (3, .int x3)] [] h Q
  refine Ev.aload_n 0 (am_dt kX10_lots 0 rfl) rfl rfl ?_
  refine Ev.iconst (v := 0) (am_dt kX10_lots 1 rfl) (by decide) ?_
  obtain ⟨f1, k⟩ := k
  refine Ev.putI' (ci := 10) (k := 0) (am_dt kX10_lots 2 rfl) (by decide) (by decide) wd_583 rfl rfl rfl rfl f1.1 (fun h2 eh2 => ?_)
  have k := k h2 eh2
  have f1 := am_LsI eh2 f1
  refine Ev.iload_n 1 (am_dt kX10_lots 3 rfl) rfl rfl ?_
  refine Ev.iconst (v := 0) (am_dt kX10_lots 4 rfl) (by decide) ?_
  refine Ev.sipush (v := 9999) (am_dt kX10_lots 5 rfl) (by decide) ?_
  refine Ev.callS (v := mX10_within) (As := [.int x1, .int 0, .int 9999]) (st := []) okX10_within wd_653 wd_652 (am_dt kX10_lots 6 rfl) rfl rfl (Nat.le_of_ble_eq_true rfl) (Nat.le_of_ble_eq_true rfl) ?_
  refine EvM.mono k (fun r4 h3 k => ?_)
  obtain ⟨v5, rfl, k⟩ := k
  show Ev w _ _ _ 13 _ [.int v5] _ _
  refine Ev.if_eq (tgt := 35) (am_dt kX10_lots 7 rfl) (by decide) (fun c => ?_) (fun c => ?_)
  · have k := k.1 c
    refine Ev.iconst (v := (-1)) (am_dt kX10_lots 18 rfl) (by decide) ?_
    exact Ev.iret .int (am_dt kX10_lots 19 rfl) rfl rfl k
  · have k := k.2 c
    refine Ev.iload_n 2 (am_dt kX10_lots 8 rfl) rfl rfl ?_
    refine Ev.iconst (v := 1) (am_dt kX10_lots 9 rfl) (by decide) ?_
    refine Ev.bipush (v := 50) (am_dt kX10_lots 10 rfl) (by decide) ?_
    refine Ev.callS (v := mX10_within) (As := [.int x2, .int 1, .int 50]) (st := []) okX10_within wd_653 wd_652 (am_dt kX10_lots 11 rfl) rfl rfl (Nat.le_of_ble_eq_true rfl) (Nat.le_of_ble_eq_true rfl) ?_
    refine EvM.mono k (fun r7 h6 k => ?_)
    obtain ⟨v8, rfl, k⟩ := k
    show Ev w _ _ _ 23 _ [.int v8] _ _
    refine Ev.if_eq (tgt := 35) (am_dt kX10_lots 12 rfl) (by decide) (fun c => ?_) (fun c => ?_)
    · have k := k.1 c
      refine Ev.iconst (v := (-1)) (am_dt kX10_lots 18 rfl) (by decide) ?_
      exact Ev.iret .int (am_dt kX10_lots 19 rfl) rfl rfl k
    · have k := k.2 c
      refine Ev.iload_n 3 (am_dt kX10_lots 13 rfl) rfl rfl ?_
      refine Ev.iconst (v := 0) (am_dt kX10_lots 14 rfl) (by decide) ?_
      refine Ev.iconst (v := 4) (am_dt kX10_lots 15 rfl) (by decide) ?_
      refine Ev.callS (v := mX10_within) (As := [.int x3, .int 0, .int 4]) (st := []) okX10_within wd_653 wd_652 (am_dt kX10_lots 16 rfl) rfl rfl (Nat.le_of_ble_eq_true rfl) (Nat.le_of_ble_eq_true rfl) ?_
      refine EvM.mono k (fun r10 h9 k => ?_)
      obtain ⟨v11, rfl, k⟩ := k
      show Ev w _ _ _ 32 _ [.int v11] _ _
      refine Ev.if_ne (tgt := 37) (am_dt kX10_lots 17 rfl) (by decide) (fun c => ?_) (fun c => ?_)
      · have k := k.2 c
        refine Ev.aload_n 0 (am_dt kX10_lots 20 rfl) rfl rfl ?_
        refine Ev.iload_n 1 (am_dt kX10_lots 21 rfl) rfl rfl ?_
        refine Ev.i2l (am_dt kX10_lots 22 rfl) ?_
        obtain ⟨f12, k⟩ := k
        refine Ev.putJ' (ci := 10) (k := 53) (am_dt kX10_lots 23 rfl) (by decide) (by decide) wd_777 rfl rfl rfl rfl f12.1 (fun h13 eh13 => ?_)
        have k := k h13 eh13
        have f12 := am_LsJ eh13 f12
        refine Ev.iconst (v := 0) (am_dt kX10_lots 24 rfl) (by decide) ?_
        refine Ev.istore (lv' := [(4, .int 0), (0, .ref a0), (1, .int x1), (2, .int x2), (3, .int x3)]) (am_dt kX10_lots 25 rfl) (by decide) rfl ?_
        refine Ev.iconst (v := 0) (am_dt kX10_lots 26 rfl) (by decide) ?_
        refine Ev.istore (lv' := [(5, .int 0), (4, .int 0), (0, .ref a0), (1, .int x1), (2, .int x2), (3, .int x3)]) (am_dt kX10_lots 27 rfl) (by decide) rfl ?_
        refine Ev.iconst (v := 0) (am_dt kX10_lots 28 rfl) (by decide) ?_
        refine Ev.istore (lv' := [(6, .int 0), (5, .int 0), (4, .int 0), (0, .ref a0), (1, .int x1), (2, .int x2), (3, .int x3)]) (am_dt kX10_lots 29 rfl) (by decide) rfl ?_
        refine Ev.iconst (v := 0) (am_dt kX10_lots 30 rfl) (by decide) ?_
        refine Ev.istore (lv' := [(7, .int 0), (6, .int 0), (5, .int 0), (4, .int 0), (0, .ref a0), (1, .int x1), (2, .int x2), (3, .int x3)]) (am_dt kX10_lots 31 rfl) (by decide) rfl ?_
        refine Ev.iconst (v := 0) (am_dt kX10_lots 32 rfl) (by decide) ?_
        refine Ev.istore (lv' := [(8, .int 0), (7, .int 0), (6, .int 0), (5, .int 0), (4, .int 0), (0, .ref a0), (1, .int x1), (2, .int x2), (3, .int x3)]) (am_dt kX10_lots 33 rfl) (by decide) rfl ?_
        refine Ev.iconst (v := 0) (am_dt kX10_lots 34 rfl) (by decide) ?_
        refine Ev.istore (lv' := [(9, .int 0), (8, .int 0), (7, .int 0), (6, .int 0), (5, .int 0), (4, .int 0), (0, .ref a0), (1, .int x1), (2, .int x2), (3, .int x3)]) (am_dt kX10_lots 35 rfl) (by decide) rfl ?_
        exact Ev.sub [6, 8, 9, 5, 4, 3, 2, 1, 0] rfl k
      · have k := k.1 c
        refine Ev.iconst (v := (-1)) (am_dt kX10_lots 18 rfl) (by decide) ?_
        exact Ev.iret .int (am_dt kX10_lots 19 rfl) rfl rfl k
set_option maxRecDepth 20000 in
set_option maxHeartbeats 2000000 in
theorem bX10_lots_61 {w : am_W} {d : Nat} {h : am_H} {Q : Option Value → am_H → Prop} {a0 : Nat} {x2 : Int32} {x3 : Int32} {x4 : Int32} {x5 : Int32} {x6 : Int32} {x7 : Int32} {x8 : Int32} {x9 : Int32}  (k : (x2 ≤ x9 → ((x3 = 0 → (Q (some (.int x4)) h)) ∧ (¬ x3 = 0 → ((x3 = 1 → (Q (some (.int x5)) h)) ∧ (¬ x3 = 1 → ((x3 = 2 → (Q (some (.int x6)) h)) ∧ (¬ x3 = 2 → ((x3 = 3 → (Q (some (.int x7)) h)) ∧ (¬ x3 = 3 → (Q (some (.int x8)) h)))))))))) ∧ (¬ x2 ≤ x9 → ((am_L 10 a0 h) ∧ (EvM w mX10_dawns d [.ref a0] h (fun r3 h2 => r3 = none ∧ (Ev w (am_Z w) mX10_lots (d + 1) 74 [(0, .ref a0), (2, .int x2), (3, .int x3), (4, .int x4), (5, .int x5), (6, .int x6), (7, .int x7), (8, .int x8), (9, .int x9), (10, .int 0)] [] h2 Q)))))) : Ev w (am_Z w) mX10_lots (d + 1) 61 [(0, .ref a0), (2, .int x2), (3, .int x3), (4, .int x4), (5, .int x5), (6, .int x6), (7, .int x7), (8, .int x8), (9, .int x9)] [] h Q := by
  refine Ev.iload 8 (am_dt kX10_lots 36 rfl) rfl ?_
  refine Ev.iload_n 1 (am_dt kX10_lots 37 rfl) rfl rfl ?_
  refine Ev.icmp_ge (tgt := 252) (am_dt kX10_lots 38 rfl) (by decide) (fun c => ?_) (fun c => ?_)
  · have k := k.1 c
    refine Ev.iload_n 2 (am_dt kX10_lots 131 rfl) rfl rfl ?_
    refine Ev.if_ne (tgt := 261) (am_dt kX10_lots 132 rfl) (by decide) (fun c => ?_) (fun c => ?_)
    · have k := k.2 c
      refine Ev.iload_n 2 (am_dt kX10_lots 135 rfl) rfl rfl ?_
      refine Ev.iconst (v := 1) (am_dt kX10_lots 136 rfl) (by decide) ?_
      refine Ev.icmp_ne (tgt := 271) (am_dt kX10_lots 137 rfl) (by decide) (fun c => ?_) (fun c => ?_)
      · have k := k.2 c
        refine Ev.iload_n 2 (am_dt kX10_lots 140 rfl) rfl rfl ?_
        refine Ev.iconst (v := 2) (am_dt kX10_lots 141 rfl) (by decide) ?_
        refine Ev.icmp_ne (tgt := 281) (am_dt kX10_lots 142 rfl) (by decide) (fun c => ?_) (fun c => ?_)
        · have k := k.2 c
          refine Ev.iload_n 2 (am_dt kX10_lots 145 rfl) rfl rfl ?_
          refine Ev.iconst (v := 3) (am_dt kX10_lots 146 rfl) (by decide) ?_
          refine Ev.icmp_ne (tgt := 291) (am_dt kX10_lots 147 rfl) (by decide) (fun c => ?_) (fun c => ?_)
          · have k := k.2 c
            refine Ev.iload 7 (am_dt kX10_lots 150 rfl) rfl ?_
            exact Ev.iret .int (am_dt kX10_lots 151 rfl) rfl rfl k
          · have k := k.1 c
            refine Ev.iload 6 (am_dt kX10_lots 148 rfl) rfl ?_
            refine Ev.goto (tgt := 293) (am_dt kX10_lots 149 rfl) (by decide) ?_
            exact Ev.iret .int (am_dt kX10_lots 151 rfl) rfl rfl k
        · have k := k.1 c
          refine Ev.iload 5 (am_dt kX10_lots 143 rfl) rfl ?_
          refine Ev.goto (tgt := 293) (am_dt kX10_lots 144 rfl) (by decide) ?_
          exact Ev.iret .int (am_dt kX10_lots 151 rfl) rfl rfl k
      · have k := k.1 c
        refine Ev.iload 4 (am_dt kX10_lots 138 rfl) rfl ?_
        refine Ev.goto (tgt := 293) (am_dt kX10_lots 139 rfl) (by decide) ?_
        exact Ev.iret .int (am_dt kX10_lots 151 rfl) rfl rfl k
    · have k := k.1 c
      refine Ev.iload 3 (am_dt kX10_lots 133 rfl) rfl ?_
      refine Ev.goto (tgt := 293) (am_dt kX10_lots 134 rfl) (by decide) ?_
      exact Ev.iret .int (am_dt kX10_lots 151 rfl) rfl rfl k
  · have k := k.2 c
    refine Ev.aload_n 0 (am_dt kX10_lots 39 rfl) rfl rfl ?_
    obtain ⟨f1, k⟩ := k
    refine Ev.callV (ci := 10) (v := mX10_dawns) (As := []) (st := []) okX10_dawns wd_709 wd_710 wd_711 (am_dt kX10_lots 40 rfl) (by decide) rfl rfl (Nat.le_of_ble_eq_true rfl) (Nat.le_of_ble_eq_true rfl) f1.1 ?_
    refine EvM.mono k (fun r3 h2 k => ?_)
    obtain ⟨rfl, k⟩ := k
    show Ev w _ _ _ 71 _ [] _ _
    refine Ev.iconst (v := 0) (am_dt kX10_lots 41 rfl) (by decide) ?_
    refine Ev.istore (lv' := [(10, .int 0), (0, .ref a0), (2, .int x2), (3, .int x3), (4, .int x4), (5, .int x5), (6, .int x6), (7, .int x7), (8, .int x8), (9, .int x9)]) (am_dt kX10_lots 42 rfl) (by decide) rfl ?_
    exact Ev.sub [1, 2, 3, 4, 5, 6, 7, 8, 9, 0] rfl k
set_option maxRecDepth 20000 in
set_option maxHeartbeats 2000000 in
theorem bX10_lots_74 {w : am_W} {d : Nat} {h : am_H} {Q : Option Value → am_H → Prop} {a0 : Nat} {x2 : Int32} {x3 : Int32} {x4 : Int32} {x5 : Int32} {x6 : Int32} {x7 : Int32} {x8 : Int32} {x9 : Int32} {x10 : Int32}  (k : (1440 ≤ x10 → ((am_L 10 a0 h) ∧ (Ev w (am_Z w) mX10_lots (d + 1) 187 [(0, .ref a0), (2, .int x2), (3, .int x3), (4, .int (x4 + (hI h a0 44))), (5, .int (x5 + (hI h a0 36))), (6, .int x6), (7, .int x7), (8, .int x8), (9, .int x9), (10, .int 0)] [] h Q))) ∧ (¬ 1440 ≤ x10 → ((am_L 10 a0 h) ∧ ((300 ≤ (hI h a0 36) → (Ev w (am_Z w) mX10_lots (d + 1) 142 [(0, .ref a0), (2, .int x2), (3, .int x3), (4, .int x4), (5, .int x5), (6, .int x6), (7, .int x7), (8, .int x8), (9, .int x9), (10, .int x10)] [] h Q)) ∧ (¬ 300 ≤ (hI h a0 36) → (EvM w mX10_draws d [.ref a0, .int 1000] h (fun r4 h3 => ∃ v5 : Int32, r4 = some (.int v5) ∧ ((am_L 10 a0 h3) ∧ ((vp_in 5 (hN h3 (a0 + 2))) ∧ (((hI h3 (a0 + 2) (Int32.toNatClampNeg 5)) ≤ v5 → (Ev w (am_Z w) mX10_lots (d + 1) 142 [(0, .ref a0), (2, .int x2), (3, .int x3), (4, .int x4), (5, .int x5), (6, .int x6), (7, .int x7), (8, .int x8), (9, .int x9), (10, .int x10)] [] h3 Q)) ∧ (¬ (hI h3 (a0 + 2) (Int32.toNatClampNeg 5)) ≤ v5 → ((vp_in 4 (hN h3 (a0 + 2))) ∧ (EvM w mX10_draws d [.ref a0, .int (hI h3 (a0 + 2) (Int32.toNatClampNeg 4))] h3 (fun r10 h9 => ∃ v11 : Int32, r10 = some (.int v11) ∧ ((am_L 10 a0 h9) ∧ ((vp_in 3 (hN h9 (a0 + 2))) ∧ (((hI h9 (a0 + 2) (Int32.toNatClampNeg 3)) ≤ v11 → (EvM w mX10_joins d [.ref a0, .int 1, .int x10, .int 70, .int 0, .int 2] h9 (fun r15 h14 => r15 = none ∧ (Ev w (am_Z w) mX10_lots (d + 1) 142 [(0, .ref a0), (2, .int x2), (3, .int x3), (4, .int x4), (5, .int x5), (6, .int x6), (7, .int x7), (8, .int x8), (9, .int x9), (10, .int x10)] [] h14 Q)))) ∧ (¬ (hI h9 (a0 + 2) (Int32.toNatClampNeg 3)) ≤ v11 → (EvM w mX10_joins d [.ref a0, .int 0, .int x10, .int 70, .int 0, .int 2] h9 (fun r17 h16 => r17 = none ∧ (Ev w (am_Z w) mX10_lots (d + 1) 142 [(0, .ref a0), (2, .int x2), (3, .int x3), (4, .int x4), (5, .int x5), (6, .int x6), (7, .int x7), (8, .int x8), (9, .int x9), (10, .int x10)] [] h16 Q))))))))))))))))))))) : Ev w (am_Z w) mX10_lots (d + 1) 74 [(0, .ref a0), (2, .int x2), (3, .int x3), (4, .int x4), (5, .int x5), (6, .int x6), (7, .int x7), (8, .int x8), (9, .int x9), (10, .int x10)] [] h Q := by
  refine Ev.iload 9 (am_dt kX10_lots 43 rfl) rfl ?_
  refine Ev.sipush (v := 1440) (am_dt kX10_lots 44 rfl) (by decide) ?_
  refine Ev.icmp_ge (tgt := 166) (am_dt kX10_lots 45 rfl) (by decide) (fun c => ?_) (fun c => ?_)
  · have k := k.1 c
    refine Ev.iload 3 (am_dt kX10_lots 88 rfl) rfl ?_
    refine Ev.aload_n 0 (am_dt kX10_lots 89 rfl) rfl rfl ?_
    obtain ⟨f1, k⟩ := k
    refine Ev.getI (ci := 10) (k := 44) (am_dt kX10_lots 90 rfl) (by decide) (by decide) rfl wd_704 f1.1 ?_
    refine Ev.iadd (am_dt kX10_lots 91 rfl) ?_
    refine Ev.istore (lv' := [(4, .int (x4 + (hI h a0 44))), (0, .ref a0), (2, .int x2), (3, .int x3), (5, .int x5), (6, .int x6), (7, .int x7), (8, .int x8), (9, .int x9), (10, .int x10)]) (am_dt kX10_lots 92 rfl) (by decide) rfl ?_
    refine Ev.iload 4 (am_dt kX10_lots 93 rfl) rfl ?_
    refine Ev.aload_n 1 (am_dt kX10_lots 94 rfl) rfl rfl ?_
    refine Ev.getI (ci := 10) (k := 36) (am_dt kX10_lots 95 rfl) (by decide) (by decide) rfl wd_703 f1.1 ?_
    refine Ev.iadd (am_dt kX10_lots 96 rfl) ?_
    refine Ev.istore (lv' := [(5, .int (x5 + (hI h a0 36))), (4, .int (x4 + (hI h a0 44))), (0, .ref a0), (2, .int x2), (3, .int x3), (6, .int x6), (7, .int x7), (8, .int x8), (9, .int x9), (10, .int x10)]) (am_dt kX10_lots 97 rfl) (by decide) rfl ?_
    refine Ev.iconst (v := 0) (am_dt kX10_lots 98 rfl) (by decide) ?_
    refine Ev.istore (lv' := [(10, .int 0), (5, .int (x5 + (hI h a0 36))), (4, .int (x4 + (hI h a0 44))), (0, .ref a0), (2, .int x2), (3, .int x3), (6, .int x6), (7, .int x7), (8, .int x8), (9, .int x9)]) (am_dt kX10_lots 99 rfl) (by decide) rfl ?_
    exact Ev.sub [3, 4, 5, 2, 1, 6, 7, 8, 9, 0] rfl k
  · have k := k.2 c
    refine Ev.aload_n 0 (am_dt kX10_lots 46 rfl) rfl rfl ?_
    obtain ⟨f2, k⟩ := k
    refine Ev.getI (ci := 10) (k := 36) (am_dt kX10_lots 47 rfl) (by decide) (by decide) rfl wd_703 f2.1 ?_
    refine Ev.sipush (v := 300) (am_dt kX10_lots 48 rfl) (by decide) ?_
    refine Ev.icmp_ge (tgt := 142) (am_dt kX10_lots 49 rfl) (by decide) (fun c => ?_) (fun c => ?_)
    · have k := k.1 c
      exact k
    · have k := k.2 c
      refine Ev.aload_n 0 (am_dt kX10_lots 50 rfl) rfl rfl ?_
      refine Ev.sipush (v := 1000) (am_dt kX10_lots 51 rfl) (by decide) ?_
      refine Ev.callV (ci := 10) (v := mX10_draws) (As := [.int 1000]) (st := []) okX10_draws wd_782 wd_783 wd_784 (am_dt kX10_lots 52 rfl) (by decide) rfl rfl (Nat.le_of_ble_eq_true rfl) (Nat.le_of_ble_eq_true rfl) f2.1 ?_
      refine EvM.mono k (fun r4 h3 k => ?_)
      obtain ⟨v5, rfl, k⟩ := k
      show Ev w _ _ _ 99 _ [.int v5] _ _
      refine Ev.aload_n 0 (am_dt kX10_lots 53 rfl) rfl rfl ?_
      obtain ⟨f6, k⟩ := k
      refine Ev.getRe (ci := 10) (k := 10) (r := a0 + 2) (am_dt kX10_lots 54 rfl) (by decide) (by decide) rfl wd_543 f6.1 (am_L.r f6 1 rfl) (by omega) ?_
      refine Ev.iconst (v := 5) (am_dt kX10_lots 55 rfl) (by decide) ?_
      obtain ⟨f7, k⟩ := k
      refine Ev.iald (am_dt kX10_lots 56 rfl) (am_L.s f6 1 rfl) f7 ?_
      refine Ev.icmp_ge (tgt := 142) (am_dt kX10_lots 57 rfl) (by decide) (fun c => ?_) (fun c => ?_)
      · have k := k.1 c
        exact k
      · have k := k.2 c
        refine Ev.aload_n 0 (am_dt kX10_lots 58 rfl) rfl rfl ?_
        refine Ev.aload_n 0 (am_dt kX10_lots 59 rfl) rfl rfl ?_
        refine Ev.aload_n 0 (am_dt kX10_lots 60 rfl) rfl rfl ?_
        refine Ev.getRe (ci := 10) (k := 10) (r := a0 + 2) (am_dt kX10_lots 61 rfl) (by decide) (by decide) rfl wd_543 f6.1 (am_L.r f6 1 rfl) (by omega) ?_
        refine Ev.iconst (v := 4) (am_dt kX10_lots 62 rfl) (by decide) ?_
        obtain ⟨f8, k⟩ := k
        refine Ev.iald (am_dt kX10_lots 63 rfl) (am_L.s f6 1 rfl) f8 ?_
        refine Ev.callV (ci := 10) (v := mX10_draws) (As := [.int (hI h3 (a0 + 2) (Int32.toNatClampNeg 4))]) (st := [.ref a0]) okX10_draws wd_782 wd_783 wd_784 (am_dt kX10_lots 64 rfl) (by decide) rfl rfl (Nat.le_of_ble_eq_true rfl) (Nat.le_of_ble_eq_true rfl) f6.1 ?_
        refine EvM.mono k (fun r10 h9 k => ?_)
        obtain ⟨v11, rfl, k⟩ := k
        show Ev w _ _ _ 119 _ [.int v11, .ref a0] _ _
        refine Ev.aload_n 0 (am_dt kX10_lots 65 rfl) rfl rfl ?_
        obtain ⟨f12, k⟩ := k
        refine Ev.getRe (ci := 10) (k := 10) (r := a0 + 2) (am_dt kX10_lots 66 rfl) (by decide) (by decide) rfl wd_543 f12.1 (am_L.r f12 1 rfl) (by omega) ?_
        refine Ev.iconst (v := 3) (am_dt kX10_lots 67 rfl) (by decide) ?_
        obtain ⟨f13, k⟩ := k
        refine Ev.iald (am_dt kX10_lots 68 rfl) (am_L.s f12 1 rfl) f13 ?_
        refine Ev.icmp_ge (tgt := 132) (am_dt kX10_lots 69 rfl) (by decide) (fun c => ?_) (fun c => ?_)
        · have k := k.1 c
          refine Ev.iconst (v := 1) (am_dt kX10_lots 72 rfl) (by decide) ?_
          refine Ev.iload 9 (am_dt kX10_lots 73 rfl) rfl ?_
          refine Ev.bipush (v := 70) (am_dt kX10_lots 74 rfl) (by decide) ?_
          refine Ev.iconst (v := 0) (am_dt kX10_lots 75 rfl) (by decide) ?_
          refine Ev.iconst (v := 2) (am_dt kX10_lots 76 rfl) (by decide) ?_
          refine Ev.callV (ci := 10) (v := mX10_joins) (As := [.int 1, .int x10, .int 70, .int 0, .int 2]) (st := []) okX10_joins wd_712 wd_713 wd_714 (am_dt kX10_lots 77 rfl) (by decide) rfl rfl (Nat.le_of_ble_eq_true rfl) (Nat.le_of_ble_eq_true rfl) f12.1 ?_
          refine EvM.mono k (fun r15 h14 k => ?_)
          obtain ⟨rfl, k⟩ := k
          show Ev w _ _ _ 142 _ [] _ _
          exact k
        · have k := k.2 c
          refine Ev.iconst (v := 0) (am_dt kX10_lots 70 rfl) (by decide) ?_
          refine Ev.goto (tgt := 133) (am_dt kX10_lots 71 rfl) (by decide) ?_
          refine Ev.iload 9 (am_dt kX10_lots 73 rfl) rfl ?_
          refine Ev.bipush (v := 70) (am_dt kX10_lots 74 rfl) (by decide) ?_
          refine Ev.iconst (v := 0) (am_dt kX10_lots 75 rfl) (by decide) ?_
          refine Ev.iconst (v := 2) (am_dt kX10_lots 76 rfl) (by decide) ?_
          refine Ev.callV (ci := 10) (v := mX10_joins) (As := [.int 0, .int x10, .int 70, .int 0, .int 2]) (st := []) okX10_joins wd_712 wd_713 wd_714 (am_dt kX10_lots 77 rfl) (by decide) rfl rfl (Nat.le_of_ble_eq_true rfl) (Nat.le_of_ble_eq_true rfl) f12.1 ?_
          refine EvM.mono k (fun r17 h16 k => ?_)
          obtain ⟨rfl, k⟩ := k
          show Ev w _ _ _ 142 _ [] _ _
          exact k
set_option maxRecDepth 20000 in
set_option maxHeartbeats 2000000 in
theorem bX10_lots_187 {w : am_W} {d : Nat} {h : am_H} {Q : Option Value → am_H → Prop} {a0 : Nat} {x2 : Int32} {x3 : Int32} {x4 : Int32} {x5 : Int32} {x6 : Int32} {x7 : Int32} {x8 : Int32} {x9 : Int32} {x10 : Int32}  (k : (am_L 10 a0 h) ∧ (((hI h a0 36) ≤ x10 → (Ev w (am_Z w) mX10_lots (d + 1) 61 [(0, .ref a0), (2, .int x2), (3, .int x3), (4, .int x4), (5, .int x5), (6, .int x6), (7, .int x7), (8, .int x8), (9, .int (x9 + 1))] [] h Q)) ∧ (¬ (hI h a0 36) ≤ x10 → (EvM w mX10_waitOf d [.ref a0, .int x10] h (fun r3 h2 => ∃ v4 : Int32, r3 = some (.int v4) ∧ ((am_L 10 a0 h2) ∧ ((vp_in x10 (hN h2 (a0 + 30))) ∧ ((0 ≤ (hI h2 (a0 + 30) (Int32.toNatClampNeg x10)) → (EvM w mX10_waitOf d [.ref a0, .int x10] h2 (fun r8 h7 => ∃ v9 : Int32, r8 = some (.int v9) ∧ (Ev w (am_Z w) mX10_lots (d + 1) 187 [(0, .ref a0), (2, .int x2), (3, .int x3), (4, .int x4), (5, .int x5), (6, .int (x6 + v4)), (7, .int (x7 + 0)), (8, .int (if x8 < v9 then v9 else x8)), (9, .int x9), (10, .int (x10 + 1))] [] h7 Q)))) ∧ (¬ 0 ≤ (hI h2 (a0 + 30) (Int32.toNatClampNeg x10)) → (EvM w mX10_waitOf d [.ref a0, .int x10] h2 (fun r11 h10 => ∃ v12 : Int32, r11 = some (.int v12) ∧ (Ev w (am_Z w) mX10_lots (d + 1) 187 [(0, .ref a0), (2, .int x2), (3, .int x3), (4, .int x4), (5, .int x5), (6, .int (x6 + v4)), (7, .int (x7 + 1)), (8, .int (if x8 < v12 then v12 else x8)), (9, .int x9), (10, .int (x10 + 1))] [] h10 Q)))))))))))) : Ev w (am_Z w) mX10_lots (d + 1) 187 [(0, .ref a0), (2, .int x2), (3, .int x3), (4, .int x4), (5, .int x5), (6, .int x6), (7, .int x7), (8, .int x8), (9, .int x9), (10, .int x10)] [] h Q := by
  refine Ev.iload 9 (am_dt kX10_lots 100 rfl) rfl ?_
  refine Ev.aload_n 0 (am_dt kX10_lots 101 rfl) rfl rfl ?_
  obtain ⟨f1, k⟩ := k
  refine Ev.getI (ci := 10) (k := 36) (am_dt kX10_lots 102 rfl) (by decide) (by decide) rfl wd_703 f1.1 ?_
  refine Ev.icmp_ge (tgt := 246) (am_dt kX10_lots 103 rfl) (by decide) (fun c => ?_) (fun c => ?_)
  · have k := k.1 c
    refine Ev.iinc (v := x9 + 1) (lv' := [(9, .int (x9 + 1)), (0, .ref a0), (2, .int x2), (3, .int x3), (4, .int x4), (5, .int x5), (6, .int x6), (7, .int x7), (8, .int x8), (10, .int x10)]) 8 (am_dt kX10_lots 129 rfl) rfl rfl (by decide) rfl ?_
    refine Ev.goto (tgt := 61) (am_dt kX10_lots 130 rfl) (by decide) ?_
    exact Ev.sub [1, 2, 3, 4, 5, 6, 7, 8, 0] rfl k
  · have k := k.2 c
    refine Ev.iload 5 (am_dt kX10_lots 104 rfl) rfl ?_
    refine Ev.aload_n 0 (am_dt kX10_lots 105 rfl) rfl rfl ?_
    refine Ev.iload 9 (am_dt kX10_lots 106 rfl) rfl ?_
    refine Ev.callV (ci := 10) (v := mX10_waitOf) (As := [.int x10]) (st := [.int x6]) okX10_waitOf wd_739 wd_740 wd_741 (am_dt kX10_lots 107 rfl) (by decide) rfl rfl (Nat.le_of_ble_eq_true rfl) (Nat.le_of_ble_eq_true rfl) f1.1 ?_
    refine EvM.mono k (fun r3 h2 k => ?_)
    obtain ⟨v4, rfl, k⟩ := k
    show Ev w _ _ _ 204 _ [.int v4, .int x6] _ _
    refine Ev.iadd (am_dt kX10_lots 108 rfl) ?_
    refine Ev.istore (lv' := [(6, .int (x6 + v4)), (0, .ref a0), (2, .int x2), (3, .int x3), (4, .int x4), (5, .int x5), (7, .int x7), (8, .int x8), (9, .int x9), (10, .int x10)]) (am_dt kX10_lots 109 rfl) (by decide) rfl ?_
    refine Ev.iload 6 (am_dt kX10_lots 110 rfl) rfl ?_
    refine Ev.aload_n 1 (am_dt kX10_lots 111 rfl) rfl rfl ?_
    obtain ⟨f5, k⟩ := k
    refine Ev.getRe (ci := 10) (k := 42) (r := a0 + 30) (am_dt kX10_lots 112 rfl) (by decide) (by decide) rfl wd_571 f5.1 (am_L.r f5 29 rfl) (by omega) ?_
    refine Ev.iload 9 (am_dt kX10_lots 113 rfl) rfl ?_
    obtain ⟨f6, k⟩ := k
    refine Ev.iald (am_dt kX10_lots 114 rfl) (am_L.s f5 29 rfl) f6 ?_
    refine Ev.if_ge (tgt := 223) (am_dt kX10_lots 115 rfl) (by decide) (fun c => ?_) (fun c => ?_)
    · have k := k.1 c
      refine Ev.iconst (v := 0) (am_dt kX10_lots 118 rfl) (by decide) ?_
      refine Ev.iadd (am_dt kX10_lots 119 rfl) ?_
      refine Ev.istore (lv' := [(7, .int (x7 + 0)), (6, .int (x6 + v4)), (0, .ref a0), (2, .int x2), (3, .int x3), (4, .int x4), (5, .int x5), (8, .int x8), (9, .int x9), (10, .int x10)]) (am_dt kX10_lots 120 rfl) (by decide) rfl ?_
      refine Ev.iload 7 (am_dt kX10_lots 121 rfl) rfl ?_
      refine Ev.aload_n 2 (am_dt kX10_lots 122 rfl) rfl rfl ?_
      refine Ev.iload 9 (am_dt kX10_lots 123 rfl) rfl ?_
      refine Ev.callV (ci := 10) (v := mX10_waitOf) (As := [.int x10]) (st := [.int x8]) okX10_waitOf wd_739 wd_740 wd_741 (am_dt kX10_lots 124 rfl) (by decide) rfl rfl (Nat.le_of_ble_eq_true rfl) (Nat.le_of_ble_eq_true rfl) f5.1 ?_
      refine EvM.mono k (fun r8 h7 k => ?_)
      obtain ⟨v9, rfl, k⟩ := k
      show Ev w _ _ _ 235 _ [.int v9, .int x8] _ _
      refine Ev.mmax wd_665 wd_5 wd_6 wd_7 (am_dt kX10_lots 125 rfl) (Nat.le_of_ble_eq_true rfl) ?_
      refine Ev.istore (lv' := [(8, .int (if x8 < v9 then v9 else x8)), (7, .int (x7 + 0)), (6, .int (x6 + v4)), (0, .ref a0), (2, .int x2), (3, .int x3), (4, .int x4), (5, .int x5), (9, .int x9), (10, .int x10)]) (am_dt kX10_lots 126 rfl) (by decide) rfl ?_
      refine Ev.iinc (v := x10 + 1) (lv' := [(10, .int (x10 + 1)), (8, .int (if x8 < v9 then v9 else x8)), (7, .int (x7 + 0)), (6, .int (x6 + v4)), (0, .ref a0), (2, .int x2), (3, .int x3), (4, .int x4), (5, .int x5), (9, .int x9)]) 9 (am_dt kX10_lots 127 rfl) rfl rfl (by decide) rfl ?_
      refine Ev.goto (tgt := 187) (am_dt kX10_lots 128 rfl) (by decide) ?_
      exact Ev.sub [4, 5, 6, 7, 8, 3, 2, 1, 9, 0] rfl k
    · have k := k.2 c
      refine Ev.iconst (v := 1) (am_dt kX10_lots 116 rfl) (by decide) ?_
      refine Ev.goto (tgt := 224) (am_dt kX10_lots 117 rfl) (by decide) ?_
      refine Ev.iadd (am_dt kX10_lots 119 rfl) ?_
      refine Ev.istore (lv' := [(7, .int (x7 + 1)), (6, .int (x6 + v4)), (0, .ref a0), (2, .int x2), (3, .int x3), (4, .int x4), (5, .int x5), (8, .int x8), (9, .int x9), (10, .int x10)]) (am_dt kX10_lots 120 rfl) (by decide) rfl ?_
      refine Ev.iload 7 (am_dt kX10_lots 121 rfl) rfl ?_
      refine Ev.aload_n 2 (am_dt kX10_lots 122 rfl) rfl rfl ?_
      refine Ev.iload 9 (am_dt kX10_lots 123 rfl) rfl ?_
      refine Ev.callV (ci := 10) (v := mX10_waitOf) (As := [.int x10]) (st := [.int x8]) okX10_waitOf wd_739 wd_740 wd_741 (am_dt kX10_lots 124 rfl) (by decide) rfl rfl (Nat.le_of_ble_eq_true rfl) (Nat.le_of_ble_eq_true rfl) f5.1 ?_
      refine EvM.mono k (fun r11 h10 k => ?_)
      obtain ⟨v12, rfl, k⟩ := k
      show Ev w _ _ _ 235 _ [.int v12, .int x8] _ _
      refine Ev.mmax wd_665 wd_5 wd_6 wd_7 (am_dt kX10_lots 125 rfl) (Nat.le_of_ble_eq_true rfl) ?_
      refine Ev.istore (lv' := [(8, .int (if x8 < v12 then v12 else x8)), (7, .int (x7 + 1)), (6, .int (x6 + v4)), (0, .ref a0), (2, .int x2), (3, .int x3), (4, .int x4), (5, .int x5), (9, .int x9), (10, .int x10)]) (am_dt kX10_lots 126 rfl) (by decide) rfl ?_
      refine Ev.iinc (v := x10 + 1) (lv' := [(10, .int (x10 + 1)), (8, .int (if x8 < v12 then v12 else x8)), (7, .int (x7 + 1)), (6, .int (x6 + v4)), (0, .ref a0), (2, .int x2), (3, .int x3), (4, .int x4), (5, .int x5), (9, .int x9)]) 9 (am_dt kX10_lots 127 rfl) rfl rfl (by decide) rfl ?_
      refine Ev.goto (tgt := 187) (am_dt kX10_lots 128 rfl) (by decide) ?_
      exact Ev.sub [4, 5, 6, 7, 8, 3, 2, 1, 9, 0] rfl k
set_option maxRecDepth 20000 in
set_option maxHeartbeats 2000000 in
theorem bX10_lots_142 {w : am_W} {d : Nat} {h : am_H} {Q : Option Value → am_H → Prop} {a0 : Nat} {x2 : Int32} {x3 : Int32} {x4 : Int32} {x5 : Int32} {x6 : Int32} {x7 : Int32} {x8 : Int32} {x9 : Int32} {x10 : Int32}  (k : (am_L 10 a0 h) ∧ (EvM w mX10_wouldRing d [.ref a0, .int x10] h (fun r3 h2 => ∃ v4 : Int32, r3 = some (.int v4) ∧ ((v4 = 0 → (Ev w (am_Z w) mX10_lots (d + 1) 74 [(0, .ref a0), (2, .int x2), (3, .int x3), (4, .int x4), (5, .int x5), (6, .int x6), (7, .int x7), (8, .int x8), (9, .int x9), (10, .int (x10 + 1))] [] h2 Q)) ∧ (¬ v4 = 0 → ((am_L 10 a0 h2) ∧ (EvM w mX10_ringsOnce d [.ref a0, .int x10] h2 (fun r7 h6 => r7 = none ∧ (Ev w (am_Z w) mX10_lots (d + 1) 142 [(0, .ref a0), (2, .int x2), (3, .int x3), (4, .int x4), (5, .int x5), (6, .int x6), (7, .int x7), (8, .int x8), (9, .int x9), (10, .int x10)] [] h6 Q))))))))) : Ev w (am_Z w) mX10_lots (d + 1) 142 [(0, .ref a0), (2, .int x2), (3, .int x3), (4, .int x4), (5, .int x5), (6, .int x6), (7, .int x7), (8, .int x8), (9, .int x9), (10, .int x10)] [] h Q := by
  refine Ev.aload_n 0 (am_dt kX10_lots 78 rfl) rfl rfl ?_
  refine Ev.iload 9 (am_dt kX10_lots 79 rfl) rfl ?_
  obtain ⟨f1, k⟩ := k
  refine Ev.callV (ci := 10) (v := mX10_wouldRing) (As := [.int x10]) (st := []) okX10_wouldRing wd_727 wd_728 wd_729 (am_dt kX10_lots 80 rfl) (by decide) rfl rfl (Nat.le_of_ble_eq_true rfl) (Nat.le_of_ble_eq_true rfl) f1.1 ?_
  refine EvM.mono k (fun r3 h2 k => ?_)
  obtain ⟨v4, rfl, k⟩ := k
  show Ev w _ _ _ 148 _ [.int v4] _ _
  refine Ev.if_eq (tgt := 160) (am_dt kX10_lots 81 rfl) (by decide) (fun c => ?_) (fun c => ?_)
  · have k := k.1 c
    refine Ev.iinc (v := x10 + 1) (lv' := [(10, .int (x10 + 1)), (0, .ref a0), (2, .int x2), (3, .int x3), (4, .int x4), (5, .int x5), (6, .int x6), (7, .int x7), (8, .int x8), (9, .int x9)]) 9 (am_dt kX10_lots 86 rfl) rfl rfl (by decide) rfl ?_
    refine Ev.goto (tgt := 74) (am_dt kX10_lots 87 rfl) (by decide) ?_
    exact Ev.sub [1, 2, 3, 4, 5, 6, 7, 8, 9, 0] rfl k
  · have k := k.2 c
    refine Ev.aload_n 0 (am_dt kX10_lots 82 rfl) rfl rfl ?_
    refine Ev.iload 9 (am_dt kX10_lots 83 rfl) rfl ?_
    obtain ⟨f5, k⟩ := k
    refine Ev.callV (ci := 10) (v := mX10_ringsOnce) (As := [.int x10]) (st := []) okX10_ringsOnce wd_730 wd_731 wd_732 (am_dt kX10_lots 84 rfl) (by decide) rfl rfl (Nat.le_of_ble_eq_true rfl) (Nat.le_of_ble_eq_true rfl) f5.1 ?_
    refine EvM.mono k (fun r7 h6 k => ?_)
    obtain ⟨rfl, k⟩ := k
    show Ev w _ _ _ 157 _ [] _ _
    refine Ev.goto (tgt := 142) (am_dt kX10_lots 85 rfl) (by decide) ?_
    exact k
