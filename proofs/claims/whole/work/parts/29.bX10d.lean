set_option maxRecDepth 20000 in
set_option maxHeartbeats 2000000 in
theorem bX10_isWaiting_0 {w : am_W} {d : Nat} {h : am_H} {Q : Option Value → am_H → Prop} {a0 : Nat} {x1 : Int32} {x2 : Int32}  (k : (am_L 10 a0 h) ∧ ((vp_in x1 (hN h (a0 + 26))) ∧ ((x2 < (hI h (a0 + 26) (Int32.toNatClampNeg x1)) → (Q (some (.int 0)) h)) ∧ (¬ x2 < (hI h (a0 + 26) (Int32.toNatClampNeg x1)) → ((vp_in x1 (hN h (a0 + 30))) ∧ (((hI h (a0 + 30) (Int32.toNatClampNeg x1)) = ((-1)) → (Q (some (.int 1)) h)) ∧ (¬ (hI h (a0 + 30) (Int32.toNatClampNeg x1)) = ((-1)) → (Q (some (.int 0)) h)))))))) : EvM w mX10_isWaiting d [.ref a0, .int x1, .int x2] h Q := by
  show Ev w (am_Z w) mX10_isWaiting d 0 [(0, .ref a0), (1, .int x1), (2, .int x2)] [] h Q
  refine Ev.aload_n 0 (am_dt kX10_isWaiting 0 rfl) rfl rfl ?_
  obtain ⟨f1, k⟩ := k
  refine Ev.getRe (ci := 10) (k := 38) (r := a0 + 26) (am_dt kX10_isWaiting 1 rfl) (by decide) (by decide) rfl wd_567 f1.1 (am_L.r f1 25 rfl) (by omega) ?_
  refine Ev.iload_n 1 (am_dt kX10_isWaiting 2 rfl) rfl rfl ?_
  obtain ⟨f2, k⟩ := k
  refine Ev.iald (am_dt kX10_isWaiting 3 rfl) (am_L.s f1 25 rfl) f2 ?_
  refine Ev.iload_n 2 (am_dt kX10_isWaiting 4 rfl) rfl rfl ?_
  refine Ev.icmp_gt (tgt := 24) (am_dt kX10_isWaiting 5 rfl) (by decide) (fun c => ?_) (fun c => ?_)
  · have k := k.1 c
    refine Ev.iconst (v := 0) (am_dt kX10_isWaiting 14 rfl) (by decide) ?_
    exact Ev.iret .boolean (am_dt kX10_isWaiting 15 rfl) rfl rfl k
  · have k := k.2 c
    refine Ev.aload_n 0 (am_dt kX10_isWaiting 6 rfl) rfl rfl ?_
    refine Ev.getRe (ci := 10) (k := 42) (r := a0 + 30) (am_dt kX10_isWaiting 7 rfl) (by decide) (by decide) rfl wd_571 f1.1 (am_L.r f1 29 rfl) (by omega) ?_
    refine Ev.iload_n 1 (am_dt kX10_isWaiting 8 rfl) rfl rfl ?_
    obtain ⟨f3, k⟩ := k
    refine Ev.iald (am_dt kX10_isWaiting 9 rfl) (am_L.s f1 29 rfl) f3 ?_
    refine Ev.iconst (v := (-1)) (am_dt kX10_isWaiting 10 rfl) (by decide) ?_
    refine Ev.icmp_ne (tgt := 24) (am_dt kX10_isWaiting 11 rfl) (by decide) (fun c => ?_) (fun c => ?_)
    · have k := k.2 c
      refine Ev.iconst (v := 0) (am_dt kX10_isWaiting 14 rfl) (by decide) ?_
      exact Ev.iret .boolean (am_dt kX10_isWaiting 15 rfl) rfl rfl k
    · have k := k.1 c
      refine Ev.iconst (v := 1) (am_dt kX10_isWaiting 12 rfl) (by decide) ?_
      refine Ev.goto (tgt := 25) (am_dt kX10_isWaiting 13 rfl) (by decide) ?_
      exact Ev.iret .boolean (am_dt kX10_isWaiting 15 rfl) rfl rfl k
set_option maxRecDepth 20000 in
set_option maxHeartbeats 2000000 in
theorem bX10_wouldRing_0 {w : am_W} {d : Nat} {h : am_H} {Q : Option Value → am_H → Prop} {a0 : Nat} {x1 : Int32}  (k : (am_L 10 a0 h) ∧ (((hI h a0 48) ≤ x1 → (Ev w (am_Z w) mX10_wouldRing (d + 1) 22 [(0, .ref a0), (1, .int x1), (2, .int 0), (3, .int 1)] [] h Q)) ∧ (¬ (hI h a0 48) ≤ x1 → (((hI h a0 49) ≤ x1 → (Ev w (am_Z w) mX10_wouldRing (d + 1) 22 [(0, .ref a0), (1, .int x1), (2, .int 0), (3, .int 1)] [] h Q)) ∧ (¬ (hI h a0 49) ≤ x1 → (Q (some (.int 0)) h)))))) : EvM w mX10_wouldRing (d + 1) [.ref a0, .int x1] h Q := by
  show Ev w (am_Z w) mX10_wouldRing (d + 1) 0 [(0, .ref a0), (1, .int x1)] [] h Q
  refine Ev.aload_n 0 (am_dt kX10_wouldRing 0 rfl) rfl rfl ?_
  obtain ⟨f1, k⟩ := k
  refine Ev.getI (ci := 10) (k := 48) (am_dt kX10_wouldRing 1 rfl) (by decide) (by decide) rfl wd_705 f1.1 ?_
  refine Ev.iload_n 1 (am_dt kX10_wouldRing 2 rfl) rfl rfl ?_
  refine Ev.icmp_le (tgt := 18) (am_dt kX10_wouldRing 3 rfl) (by decide) (fun c => ?_) (fun c => ?_)
  · have k := k.1 c
    refine Ev.iconst (v := 0) (am_dt kX10_wouldRing 10 rfl) (by decide) ?_
    refine Ev.istore_n (lv' := [(2, .int 0), (0, .ref a0), (1, .int x1)]) (am_dt kX10_wouldRing 11 rfl) rfl (by decide) rfl ?_
    refine Ev.iconst (v := 1) (am_dt kX10_wouldRing 12 rfl) (by decide) ?_
    refine Ev.istore_n (lv' := [(3, .int 1), (2, .int 0), (0, .ref a0), (1, .int x1)]) (am_dt kX10_wouldRing 13 rfl) rfl (by decide) rfl ?_
    exact Ev.sub [2, 3, 1, 0] rfl k
  · have k := k.2 c
    refine Ev.aload_n 0 (am_dt kX10_wouldRing 4 rfl) rfl rfl ?_
    refine Ev.getI (ci := 10) (k := 49) (am_dt kX10_wouldRing 5 rfl) (by decide) (by decide) rfl wd_706 f1.1 ?_
    refine Ev.iload_n 1 (am_dt kX10_wouldRing 6 rfl) rfl rfl ?_
    refine Ev.icmp_le (tgt := 18) (am_dt kX10_wouldRing 7 rfl) (by decide) (fun c => ?_) (fun c => ?_)
    · have k := k.1 c
      refine Ev.iconst (v := 0) (am_dt kX10_wouldRing 10 rfl) (by decide) ?_
      refine Ev.istore_n (lv' := [(2, .int 0), (0, .ref a0), (1, .int x1)]) (am_dt kX10_wouldRing 11 rfl) rfl (by decide) rfl ?_
      refine Ev.iconst (v := 1) (am_dt kX10_wouldRing 12 rfl) (by decide) ?_
      refine Ev.istore_n (lv' := [(3, .int 1), (2, .int 0), (0, .ref a0), (1, .int x1)]) (am_dt kX10_wouldRing 13 rfl) rfl (by decide) rfl ?_
      exact Ev.sub [2, 3, 1, 0] rfl k
    · have k := k.2 c
      refine Ev.iconst (v := 0) (am_dt kX10_wouldRing 8 rfl) (by decide) ?_
      exact Ev.iret .boolean (am_dt kX10_wouldRing 9 rfl) rfl rfl k
set_option maxRecDepth 20000 in
set_option maxHeartbeats 2000000 in
theorem bX10_wouldRing_22 {w : am_W} {d : Nat} {h : am_H} {Q : Option Value → am_H → Prop} {a0 : Nat} {x1 : Int32} {x2 : Int32} {x3 : Int32}  (k : (7 ≤ x3 → (Ev w (am_Z w) mX10_wouldRing (d + 1) 43 [(0, .ref a0), (1, .int x1), (2, .int x2), (3, .int 0)] [] h Q)) ∧ (¬ 7 ≤ x3 → ((am_L 10 a0 h) ∧ ((vp_in x3 (hN h (a0 + 24))) ∧ (∀ h3 : am_H, h3 = sI h (a0 + 24) (Int32.toNatClampNeg x3) 0 → (Ev w (am_Z w) mX10_wouldRing (d + 1) 22 [(0, .ref a0), (1, .int x1), (2, .int x2), (3, .int (x3 + 1))] [] h3 Q)))))) : Ev w (am_Z w) mX10_wouldRing (d + 1) 22 [(0, .ref a0), (1, .int x1), (2, .int x2), (3, .int x3)] [] h Q := by
  refine Ev.iload_n 3 (am_dt kX10_wouldRing 14 rfl) rfl rfl ?_
  refine Ev.bipush (v := 7) (am_dt kX10_wouldRing 15 rfl) (by decide) ?_
  refine Ev.icmp_ge (tgt := 41) (am_dt kX10_wouldRing 16 rfl) (by decide) (fun c => ?_) (fun c => ?_)
  · have k := k.1 c
    refine Ev.iconst (v := 0) (am_dt kX10_wouldRing 24 rfl) (by decide) ?_
    refine Ev.istore_n (lv' := [(3, .int 0), (0, .ref a0), (1, .int x1), (2, .int x2)]) (am_dt kX10_wouldRing 25 rfl) rfl (by decide) rfl ?_
    exact Ev.sub [1, 2, 3, 0] rfl k
  · have k := k.2 c
    refine Ev.aload_n 0 (am_dt kX10_wouldRing 17 rfl) rfl rfl ?_
    obtain ⟨f1, k⟩ := k
    refine Ev.getRe (ci := 10) (k := 34) (r := a0 + 24) (am_dt kX10_wouldRing 18 rfl) (by decide) (by decide) rfl wd_565 f1.1 (am_L.r f1 23 rfl) (by omega) ?_
    refine Ev.iload_n 3 (am_dt kX10_wouldRing 19 rfl) rfl rfl ?_
    refine Ev.iconst (v := 0) (am_dt kX10_wouldRing 20 rfl) (by decide) ?_
    obtain ⟨f2, k⟩ := k
    refine Ev.iast' (am_dt kX10_wouldRing 21 rfl) (am_L.s f1 23 rfl) f2 (fun h3 eh3 => ?_)
    have k := k h3 eh3
    have f1 := am_LsI eh3 f1
    refine Ev.iinc (v := x3 + 1) (lv' := [(3, .int (x3 + 1)), (0, .ref a0), (1, .int x1), (2, .int x2)]) 3 (am_dt kX10_wouldRing 22 rfl) rfl rfl (by decide) rfl ?_
    refine Ev.goto (tgt := 22) (am_dt kX10_wouldRing 23 rfl) (by decide) ?_
    exact Ev.sub [1, 2, 3, 0] rfl k
set_option maxRecDepth 20000 in
set_option maxHeartbeats 2000000 in
theorem bX10_wouldRing_43 {w : am_W} {d : Nat} {h : am_H} {Q : Option Value → am_H → Prop} {a0 : Nat} {x1 : Int32} {x2 : Int32} {x3 : Int32}  (k : (am_L 10 a0 h) ∧ (((hI h a0 36) ≤ x3 → ((vp_in 6 (hN h (a0 + 24))) ∧ (∀ h3 : am_H, h3 = sI h (a0 + 24) (Int32.toNatClampNeg 6) x1 → ((x2 = 0 → (Q (some (.int 0)) h3)) ∧ (¬ x2 = 0 → ((0 ≤ (hI h3 a0 50) → (EvM w mX10_worked d [.ref a0, .int (hI h3 a0 50)] h3 (fun r5 h4 => ∃ v6 : Int32, r5 = some (.int v6) ∧ ((v6 = 0 → (Q (some (.int 0)) h4)) ∧ (¬ v6 = 0 → (Q (some (.int 1)) h4)))))) ∧ (¬ 0 ≤ (hI h3 a0 50) → ((vp_in 1 (hN h3 (a0 + 24))) ∧ ((vp_in 2 (hN h3 (a0 + 24))) ∧ (((hI h3 (a0 + 24) (Int32.toNatClampNeg 1)) = (hI h3 (a0 + 24) (Int32.toNatClampNeg 2)) → ((vp_in 1 (hN h3 (a0 + 24))) ∧ (((hI h3 (a0 + 24) (Int32.toNatClampNeg 1)) ≤ 0 → (Q (some (.int 0)) h3)) ∧ (¬ (hI h3 (a0 + 24) (Int32.toNatClampNeg 1)) ≤ 0 → (Q (some (.int 1)) h3))))) ∧ (¬ (hI h3 (a0 + 24) (Int32.toNatClampNeg 1)) = (hI h3 (a0 + 24) (Int32.toNatClampNeg 2)) → (Q (some (.int 0)) h3)))))))))))) ∧ (¬ (hI h a0 36) ≤ x3 → (EvM w mX10_isWaiting d [.ref a0, .int x3, .int x1] h (fun r11 h10 => ∃ v12 : Int32, r11 = some (.int v12) ∧ ((v12 = 0 → (Ev w (am_Z w) mX10_wouldRing (d + 1) 43 [(0, .ref a0), (1, .int x1), (2, .int x2), (3, .int (x3 + 1))] [] h10 Q)) ∧ (¬ v12 = 0 → ((am_L 10 a0 h10) ∧ ((vp_in x3 (hN h10 (a0 + 25))) ∧ ((vp_in (1 + (hI h10 (a0 + 25) (Int32.toNatClampNeg x3))) (hN h10 (a0 + 24))) ∧ ((vp_in x3 (hN h10 (a0 + 29))) ∧ ((vp_in (1 + (hI h10 (a0 + 25) (Int32.toNatClampNeg x3))) (hN h10 (a0 + 24))) ∧ (∀ h18 : am_H, h18 = sI h10 (a0 + 24) (Int32.toNatClampNeg (1 + (hI h10 (a0 + 25) (Int32.toNatClampNeg x3)))) ((hI h10 (a0 + 24) (Int32.toNatClampNeg (1 + (hI h10 (a0 + 25) (Int32.toNatClampNeg x3))))) + (hI h10 (a0 + 29) (Int32.toNatClampNeg x3))) → ((vp_in x3 (hN h18 (a0 + 25))) ∧ ((vp_in (3 + (hI h18 (a0 + 25) (Int32.toNatClampNeg x3))) (hN h18 (a0 + 24))) ∧ ((vp_in x3 (hN h18 (a0 + 27))) ∧ ((vp_in (3 + (hI h18 (a0 + 25) (Int32.toNatClampNeg x3))) (hN h18 (a0 + 24))) ∧ (∀ h23 : am_H, h23 = sI h18 (a0 + 24) (Int32.toNatClampNeg (3 + (hI h18 (a0 + 25) (Int32.toNatClampNeg x3)))) ((hI h18 (a0 + 24) (Int32.toNatClampNeg (3 + (hI h18 (a0 + 25) (Int32.toNatClampNeg x3))))) + (hI h18 (a0 + 27) (Int32.toNatClampNeg x3))) → ((vp_in 5 (hN h23 (a0 + 24))) ∧ ((vp_in x3 (hN h23 (a0 + 26))) ∧ ((vp_in 5 (hN h23 (a0 + 24))) ∧ (∀ h27 : am_H, h27 = sI h23 (a0 + 24) (Int32.toNatClampNeg 5) (if (hI h23 (a0 + 24) (Int32.toNatClampNeg 5)) < (x1 - (hI h23 (a0 + 26) (Int32.toNatClampNeg x3))) then (x1 - (hI h23 (a0 + 26) (Int32.toNatClampNeg x3))) else (hI h23 (a0 + 24) (Int32.toNatClampNeg 5))) → (Ev w (am_Z w) mX10_wouldRing (d + 1) 43 [(0, .ref a0), (1, .int x1), (2, .int 1), (3, .int (x3 + 1))] [] h27 Q))))))))))))))))))))))) : Ev w (am_Z w) mX10_wouldRing (d + 1) 43 [(0, .ref a0), (1, .int x1), (2, .int x2), (3, .int x3)] [] h Q := by
  refine Ev.iload_n 3 (am_dt kX10_wouldRing 26 rfl) rfl rfl ?_
  refine Ev.aload_n 0 (am_dt kX10_wouldRing 27 rfl) rfl rfl ?_
  obtain ⟨f1, k⟩ := k
  refine Ev.getI (ci := 10) (k := 36) (am_dt kX10_wouldRing 28 rfl) (by decide) (by decide) rfl wd_703 f1.1 ?_
  refine Ev.icmp_ge (tgt := 138) (am_dt kX10_wouldRing 29 rfl) (by decide) (fun c => ?_) (fun c => ?_)
  · have k := k.1 c
    refine Ev.aload_n 0 (am_dt kX10_wouldRing 87 rfl) rfl rfl ?_
    refine Ev.getRe (ci := 10) (k := 34) (r := a0 + 24) (am_dt kX10_wouldRing 88 rfl) (by decide) (by decide) rfl wd_565 f1.1 (am_L.r f1 23 rfl) (by omega) ?_
    refine Ev.bipush (v := 6) (am_dt kX10_wouldRing 89 rfl) (by decide) ?_
    refine Ev.iload_n 1 (am_dt kX10_wouldRing 90 rfl) rfl rfl ?_
    obtain ⟨f2, k⟩ := k
    refine Ev.iast' (am_dt kX10_wouldRing 91 rfl) (am_L.s f1 23 rfl) f2 (fun h3 eh3 => ?_)
    have k := k h3 eh3
    have f1 := am_LsI eh3 f1
    refine Ev.iload_n 2 (am_dt kX10_wouldRing 92 rfl) rfl rfl ?_
    refine Ev.if_ne (tgt := 152) (am_dt kX10_wouldRing 93 rfl) (by decide) (fun c => ?_) (fun c => ?_)
    · have k := k.2 c
      refine Ev.aload_n 0 (am_dt kX10_wouldRing 96 rfl) rfl rfl ?_
      refine Ev.getI (ci := 10) (k := 50) (am_dt kX10_wouldRing 97 rfl) (by decide) (by decide) rfl wd_707 f1.1 ?_
      refine Ev.if_ge (tgt := 191) (am_dt kX10_wouldRing 98 rfl) (by decide) (fun c => ?_) (fun c => ?_)
      · have k := k.1 c
        refine Ev.aload_n 0 (am_dt kX10_wouldRing 117 rfl) rfl rfl ?_
        refine Ev.aload_n 0 (am_dt kX10_wouldRing 118 rfl) rfl rfl ?_
        refine Ev.getI (ci := 10) (k := 50) (am_dt kX10_wouldRing 119 rfl) (by decide) (by decide) rfl wd_707 f1.1 ?_
        refine Ev.callV (ci := 10) (v := mX10_worked) (As := [.int (hI h3 a0 50)]) (st := []) okX10_worked wd_715 wd_716 wd_717 (am_dt kX10_wouldRing 120 rfl) (by decide) rfl rfl (Nat.le_of_ble_eq_true rfl) (Nat.le_of_ble_eq_true rfl) f1.1 ?_
        refine EvM.mono k (fun r5 h4 k => ?_)
        obtain ⟨v6, rfl, k⟩ := k
        show Ev w _ _ _ 199 _ [.int v6] _ _
        refine Ev.if_eq (tgt := 206) (am_dt kX10_wouldRing 121 rfl) (by decide) (fun c => ?_) (fun c => ?_)
        · have k := k.1 c
          refine Ev.iconst (v := 0) (am_dt kX10_wouldRing 124 rfl) (by decide) ?_
          exact Ev.iret .boolean (am_dt kX10_wouldRing 125 rfl) rfl rfl k
        · have k := k.2 c
          refine Ev.iconst (v := 1) (am_dt kX10_wouldRing 122 rfl) (by decide) ?_
          refine Ev.goto (tgt := 207) (am_dt kX10_wouldRing 123 rfl) (by decide) ?_
          exact Ev.iret .boolean (am_dt kX10_wouldRing 125 rfl) rfl rfl k
      · have k := k.2 c
        refine Ev.aload_n 0 (am_dt kX10_wouldRing 99 rfl) rfl rfl ?_
        refine Ev.getRe (ci := 10) (k := 34) (r := a0 + 24) (am_dt kX10_wouldRing 100 rfl) (by decide) (by decide) rfl wd_565 f1.1 (am_L.r f1 23 rfl) (by omega) ?_
        refine Ev.iconst (v := 1) (am_dt kX10_wouldRing 101 rfl) (by decide) ?_
        obtain ⟨f7, k⟩ := k
        refine Ev.iald (am_dt kX10_wouldRing 102 rfl) (am_L.s f1 23 rfl) f7 ?_
        refine Ev.aload_n 0 (am_dt kX10_wouldRing 103 rfl) rfl rfl ?_
        refine Ev.getRe (ci := 10) (k := 34) (r := a0 + 24) (am_dt kX10_wouldRing 104 rfl) (by decide) (by decide) rfl wd_565 f1.1 (am_L.r f1 23 rfl) (by omega) ?_
        refine Ev.iconst (v := 2) (am_dt kX10_wouldRing 105 rfl) (by decide) ?_
        obtain ⟨f8, k⟩ := k
        refine Ev.iald (am_dt kX10_wouldRing 106 rfl) (am_L.s f1 23 rfl) f8 ?_
        refine Ev.icmp_ne (tgt := 187) (am_dt kX10_wouldRing 107 rfl) (by decide) (fun c => ?_) (fun c => ?_)
        · have k := k.2 c
          refine Ev.iconst (v := 0) (am_dt kX10_wouldRing 115 rfl) (by decide) ?_
          refine Ev.goto (tgt := 207) (am_dt kX10_wouldRing 116 rfl) (by decide) ?_
          exact Ev.iret .boolean (am_dt kX10_wouldRing 125 rfl) rfl rfl k
        · have k := k.1 c
          refine Ev.aload_n 0 (am_dt kX10_wouldRing 108 rfl) rfl rfl ?_
          refine Ev.getRe (ci := 10) (k := 34) (r := a0 + 24) (am_dt kX10_wouldRing 109 rfl) (by decide) (by decide) rfl wd_565 f1.1 (am_L.r f1 23 rfl) (by omega) ?_
          refine Ev.iconst (v := 1) (am_dt kX10_wouldRing 110 rfl) (by decide) ?_
          obtain ⟨f9, k⟩ := k
          refine Ev.iald (am_dt kX10_wouldRing 111 rfl) (am_L.s f1 23 rfl) f9 ?_
          refine Ev.if_le (tgt := 187) (am_dt kX10_wouldRing 112 rfl) (by decide) (fun c => ?_) (fun c => ?_)
          · have k := k.1 c
            refine Ev.iconst (v := 0) (am_dt kX10_wouldRing 115 rfl) (by decide) ?_
            refine Ev.goto (tgt := 207) (am_dt kX10_wouldRing 116 rfl) (by decide) ?_
            exact Ev.iret .boolean (am_dt kX10_wouldRing 125 rfl) rfl rfl k
          · have k := k.2 c
            refine Ev.iconst (v := 1) (am_dt kX10_wouldRing 113 rfl) (by decide) ?_
            refine Ev.goto (tgt := 207) (am_dt kX10_wouldRing 114 rfl) (by decide) ?_
            exact Ev.iret .boolean (am_dt kX10_wouldRing 125 rfl) rfl rfl k
    · have k := k.1 c
      refine Ev.iconst (v := 0) (am_dt kX10_wouldRing 94 rfl) (by decide) ?_
      exact Ev.iret .boolean (am_dt kX10_wouldRing 95 rfl) rfl rfl k
  · have k := k.2 c
    refine Ev.aload_n 0 (am_dt kX10_wouldRing 30 rfl) rfl rfl ?_
    refine Ev.iload_n 3 (am_dt kX10_wouldRing 31 rfl) rfl rfl ?_
    refine Ev.iload_n 1 (am_dt kX10_wouldRing 32 rfl) rfl rfl ?_
    refine Ev.callV (ci := 10) (v := mX10_isWaiting) (As := [.int x3, .int x1]) (st := []) okX10_isWaiting wd_718 wd_719 wd_720 (am_dt kX10_wouldRing 33 rfl) (by decide) rfl rfl (Nat.le_of_ble_eq_true rfl) (Nat.le_of_ble_eq_true rfl) f1.1 ?_
    refine EvM.mono k (fun r11 h10 k => ?_)
    obtain ⟨v12, rfl, k⟩ := k
    show Ev w _ _ _ 57 _ [.int v12] _ _
    refine Ev.if_ne (tgt := 63) (am_dt kX10_wouldRing 34 rfl) (by decide) (fun c => ?_) (fun c => ?_)
    · have k := k.2 c
      refine Ev.iconst (v := 1) (am_dt kX10_wouldRing 36 rfl) (by decide) ?_
      refine Ev.istore_n (lv' := [(2, .int 1), (0, .ref a0), (1, .int x1), (3, .int x3)]) (am_dt kX10_wouldRing 37 rfl) rfl (by decide) rfl ?_
      refine Ev.aload_n 1 (am_dt kX10_wouldRing 38 rfl) rfl rfl ?_
      obtain ⟨f13, k⟩ := k
      refine Ev.getRe (ci := 10) (k := 34) (r := a0 + 24) (am_dt kX10_wouldRing 39 rfl) (by decide) (by decide) rfl wd_565 f13.1 (am_L.r f13 23 rfl) (by omega) ?_
      refine Ev.iconst (v := 1) (am_dt kX10_wouldRing 40 rfl) (by decide) ?_
      refine Ev.aload_n 1 (am_dt kX10_wouldRing 41 rfl) rfl rfl ?_
      refine Ev.getRe (ci := 10) (k := 37) (r := a0 + 25) (am_dt kX10_wouldRing 42 rfl) (by decide) (by decide) rfl wd_566 f13.1 (am_L.r f13 24 rfl) (by omega) ?_
      refine Ev.iload_n 3 (am_dt kX10_wouldRing 43 rfl) rfl rfl ?_
      obtain ⟨f14, k⟩ := k
      refine Ev.iald (am_dt kX10_wouldRing 44 rfl) (am_L.s f13 24 rfl) f14 ?_
      refine Ev.iadd (am_dt kX10_wouldRing 45 rfl) ?_
      refine Ev.dup2 (am_dt kX10_wouldRing 46 rfl) rfl rfl ?_
      obtain ⟨f15, k⟩ := k
      refine Ev.iald (am_dt kX10_wouldRing 47 rfl) (am_L.s f13 23 rfl) f15 ?_
      refine Ev.aload_n 1 (am_dt kX10_wouldRing 48 rfl) rfl rfl ?_
      refine Ev.getRe (ci := 10) (k := 41) (r := a0 + 29) (am_dt kX10_wouldRing 49 rfl) (by decide) (by decide) rfl wd_570 f13.1 (am_L.r f13 28 rfl) (by omega) ?_
      refine Ev.iload_n 3 (am_dt kX10_wouldRing 50 rfl) rfl rfl ?_
      obtain ⟨f16, k⟩ := k
      refine Ev.iald (am_dt kX10_wouldRing 51 rfl) (am_L.s f13 28 rfl) f16 ?_
      refine Ev.iadd (am_dt kX10_wouldRing 52 rfl) ?_
      obtain ⟨f17, k⟩ := k
      refine Ev.iast' (am_dt kX10_wouldRing 53 rfl) (am_L.s f13 23 rfl) f17 (fun h18 eh18 => ?_)
      have k := k h18 eh18
      have f13 := am_LsI eh18 f13
      refine Ev.aload_n 1 (am_dt kX10_wouldRing 54 rfl) rfl rfl ?_
      refine Ev.getRe (ci := 10) (k := 34) (r := a0 + 24) (am_dt kX10_wouldRing 55 rfl) (by decide) (by decide) rfl wd_565 f13.1 (am_L.r f13 23 rfl) (by omega) ?_
      refine Ev.iconst (v := 3) (am_dt kX10_wouldRing 56 rfl) (by decide) ?_
      refine Ev.aload_n 1 (am_dt kX10_wouldRing 57 rfl) rfl rfl ?_
      refine Ev.getRe (ci := 10) (k := 37) (r := a0 + 25) (am_dt kX10_wouldRing 58 rfl) (by decide) (by decide) rfl wd_566 f13.1 (am_L.r f13 24 rfl) (by omega) ?_
      refine Ev.iload_n 3 (am_dt kX10_wouldRing 59 rfl) rfl rfl ?_
      obtain ⟨f19, k⟩ := k
      refine Ev.iald (am_dt kX10_wouldRing 60 rfl) (am_L.s f13 24 rfl) f19 ?_
      refine Ev.iadd (am_dt kX10_wouldRing 61 rfl) ?_
      refine Ev.dup2 (am_dt kX10_wouldRing 62 rfl) rfl rfl ?_
      obtain ⟨f20, k⟩ := k
      refine Ev.iald (am_dt kX10_wouldRing 63 rfl) (am_L.s f13 23 rfl) f20 ?_
      refine Ev.aload_n 1 (am_dt kX10_wouldRing 64 rfl) rfl rfl ?_
      refine Ev.getRe (ci := 10) (k := 39) (r := a0 + 27) (am_dt kX10_wouldRing 65 rfl) (by decide) (by decide) rfl wd_568 f13.1 (am_L.r f13 26 rfl) (by omega) ?_
      refine Ev.iload_n 3 (am_dt kX10_wouldRing 66 rfl) rfl rfl ?_
      obtain ⟨f21, k⟩ := k
      refine Ev.iald (am_dt kX10_wouldRing 67 rfl) (am_L.s f13 26 rfl) f21 ?_
      refine Ev.iadd (am_dt kX10_wouldRing 68 rfl) ?_
      obtain ⟨f22, k⟩ := k
      refine Ev.iast' (am_dt kX10_wouldRing 69 rfl) (am_L.s f13 23 rfl) f22 (fun h23 eh23 => ?_)
      have k := k h23 eh23
      have f13 := am_LsI eh23 f13
      refine Ev.aload_n 1 (am_dt kX10_wouldRing 70 rfl) rfl rfl ?_
      refine Ev.getRe (ci := 10) (k := 34) (r := a0 + 24) (am_dt kX10_wouldRing 71 rfl) (by decide) (by decide) rfl wd_565 f13.1 (am_L.r f13 23 rfl) (by omega) ?_
      refine Ev.iconst (v := 5) (am_dt kX10_wouldRing 72 rfl) (by decide) ?_
      refine Ev.aload_n 1 (am_dt kX10_wouldRing 73 rfl) rfl rfl ?_
      refine Ev.getRe (ci := 10) (k := 34) (r := a0 + 24) (am_dt kX10_wouldRing 74 rfl) (by decide) (by decide) rfl wd_565 f13.1 (am_L.r f13 23 rfl) (by omega) ?_
      refine Ev.iconst (v := 5) (am_dt kX10_wouldRing 75 rfl) (by decide) ?_
      obtain ⟨f24, k⟩ := k
      refine Ev.iald (am_dt kX10_wouldRing 76 rfl) (am_L.s f13 23 rfl) f24 ?_
      refine Ev.iload_n 2 (am_dt kX10_wouldRing 77 rfl) rfl rfl ?_
      refine Ev.aload_n 1 (am_dt kX10_wouldRing 78 rfl) rfl rfl ?_
      refine Ev.getRe (ci := 10) (k := 38) (r := a0 + 26) (am_dt kX10_wouldRing 79 rfl) (by decide) (by decide) rfl wd_567 f13.1 (am_L.r f13 25 rfl) (by omega) ?_
      refine Ev.iload_n 3 (am_dt kX10_wouldRing 80 rfl) rfl rfl ?_
      obtain ⟨f25, k⟩ := k
      refine Ev.iald (am_dt kX10_wouldRing 81 rfl) (am_L.s f13 25 rfl) f25 ?_
      refine Ev.isub (am_dt kX10_wouldRing 82 rfl) ?_
      refine Ev.mmax wd_665 wd_5 wd_6 wd_7 (am_dt kX10_wouldRing 83 rfl) (Nat.le_of_ble_eq_true rfl) ?_
      obtain ⟨f26, k⟩ := k
      refine Ev.iast' (am_dt kX10_wouldRing 84 rfl) (am_L.s f13 23 rfl) f26 (fun h27 eh27 => ?_)
      have k := k h27 eh27
      have f13 := am_LsI eh27 f13
      refine Ev.iinc (v := x3 + 1) (lv' := [(3, .int (x3 + 1)), (2, .int 1), (0, .ref a0), (1, .int x1)]) 3 (am_dt kX10_wouldRing 85 rfl) rfl rfl (by decide) rfl ?_
      refine Ev.goto (tgt := 43) (am_dt kX10_wouldRing 86 rfl) (by decide) ?_
      exact Ev.sub [2, 3, 1, 0] rfl k
    · have k := k.1 c
      refine Ev.goto (tgt := 132) (am_dt kX10_wouldRing 35 rfl) (by decide) ?_
      refine Ev.iinc (v := x3 + 1) (lv' := [(3, .int (x3 + 1)), (0, .ref a0), (1, .int x1), (2, .int x2)]) 3 (am_dt kX10_wouldRing 85 rfl) rfl rfl (by decide) rfl ?_
      refine Ev.goto (tgt := 43) (am_dt kX10_wouldRing 86 rfl) (by decide) ?_
      exact Ev.sub [1, 2, 3, 0] rfl k
set_option maxRecDepth 20000 in
set_option maxHeartbeats 2000000 in
theorem bX10_firstOf_0 {w : am_W} {d : Nat} {h : am_H} {Q : Option Value → am_H → Prop} {a0 : Nat} {x1 : Int32} {x2 : Int32}  (k : Ev w (am_Z w) mX10_firstOf (d + 1) 5 [(0, .ref a0), (1, .int x1), (2, .int x2), (3, .int ((-1))), (4, .int 0)] [] h Q) : EvM w mX10_firstOf (d + 1) [.ref a0, .int x1, .int x2] h Q := by
  show Ev w (am_Z w) mX10_firstOf (d + 1) 0 [(0, .ref a0), (1, .int x1), (2, .int x2)] [] h Q
  refine Ev.iconst (v := (-1)) (am_dt kX10_firstOf 0 rfl) (by decide) ?_
  refine Ev.istore_n (lv' := [(3, .int ((-1))), (0, .ref a0), (1, .int x1), (2, .int x2)]) (am_dt kX10_firstOf 1 rfl) rfl (by decide) rfl ?_
  refine Ev.iconst (v := 0) (am_dt kX10_firstOf 2 rfl) (by decide) ?_
  refine Ev.istore (lv' := [(4, .int 0), (3, .int ((-1))), (0, .ref a0), (1, .int x1), (2, .int x2)]) (am_dt kX10_firstOf 3 rfl) (by decide) rfl ?_
  exact Ev.sub [2, 3, 4, 1, 0] rfl k
set_option maxRecDepth 20000 in
set_option maxHeartbeats 2000000 in
theorem bX10_firstOf_5 {w : am_W} {d : Nat} {h : am_H} {Q : Option Value → am_H → Prop} {a0 : Nat} {x1 : Int32} {x2 : Int32} {x3 : Int32} {x4 : Int32}  (k : (am_L 10 a0 h) ∧ (((hI h a0 36) ≤ x4 → (Q (some (.int x3)) h)) ∧ (¬ (hI h a0 36) ≤ x4 → ((vp_in x4 (hN h (a0 + 25))) ∧ (((hI h (a0 + 25) (Int32.toNatClampNeg x4)) = x1 → (EvM w mX10_isWaiting d [.ref a0, .int x4, .int x2] h (fun r4 h3 => ∃ v5 : Int32, r4 = some (.int v5) ∧ ((v5 = 0 → (Ev w (am_Z w) mX10_firstOf (d + 1) 5 [(0, .ref a0), (1, .int x1), (2, .int x2), (3, .int x3), (4, .int (x4 + 1))] [] h3 Q)) ∧ (¬ v5 = 0 → ((x3 < 0 → (Ev w (am_Z w) mX10_firstOf (d + 1) 5 [(0, .ref a0), (1, .int x1), (2, .int x2), (3, .int x4), (4, .int (x4 + 1))] [] h3 Q)) ∧ (¬ x3 < 0 → ((am_L 10 a0 h3) ∧ ((vp_in x4 (hN h3 (a0 + 26))) ∧ ((vp_in x3 (hN h3 (a0 + 26))) ∧ (((hI h3 (a0 + 26) (Int32.toNatClampNeg x3)) ≤ (hI h3 (a0 + 26) (Int32.toNatClampNeg x4)) → (Ev w (am_Z w) mX10_firstOf (d + 1) 5 [(0, .ref a0), (1, .int x1), (2, .int x2), (3, .int x3), (4, .int (x4 + 1))] [] h3 Q)) ∧ (¬ (hI h3 (a0 + 26) (Int32.toNatClampNeg x3)) ≤ (hI h3 (a0 + 26) (Int32.toNatClampNeg x4)) → (Ev w (am_Z w) mX10_firstOf (d + 1) 5 [(0, .ref a0), (1, .int x1), (2, .int x2), (3, .int x4), (4, .int (x4 + 1))] [] h3 Q))))))))))))) ∧ (¬ (hI h (a0 + 25) (Int32.toNatClampNeg x4)) = x1 → (Ev w (am_Z w) mX10_firstOf (d + 1) 5 [(0, .ref a0), (1, .int x1), (2, .int x2), (3, .int x3), (4, .int (x4 + 1))] [] h Q))))))) : Ev w (am_Z w) mX10_firstOf (d + 1) 5 [(0, .ref a0), (1, .int x1), (2, .int x2), (3, .int x3), (4, .int x4)] [] h Q := by
  refine Ev.iload 4 (am_dt kX10_firstOf 4 rfl) rfl ?_
  refine Ev.aload_n 0 (am_dt kX10_firstOf 5 rfl) rfl rfl ?_
  obtain ⟨f1, k⟩ := k
  refine Ev.getI (ci := 10) (k := 36) (am_dt kX10_firstOf 6 rfl) (by decide) (by decide) rfl wd_703 f1.1 ?_
  refine Ev.icmp_ge (tgt := 64) (am_dt kX10_firstOf 7 rfl) (by decide) (fun c => ?_) (fun c => ?_)
  · have k := k.1 c
    refine Ev.iload_n 3 (am_dt kX10_firstOf 34 rfl) rfl rfl ?_
    exact Ev.iret .int (am_dt kX10_firstOf 35 rfl) rfl rfl k
  · have k := k.2 c
    refine Ev.aload_n 0 (am_dt kX10_firstOf 8 rfl) rfl rfl ?_
    refine Ev.getRe (ci := 10) (k := 37) (r := a0 + 25) (am_dt kX10_firstOf 9 rfl) (by decide) (by decide) rfl wd_566 f1.1 (am_L.r f1 24 rfl) (by omega) ?_
    refine Ev.iload 4 (am_dt kX10_firstOf 10 rfl) rfl ?_
    obtain ⟨f2, k⟩ := k
    refine Ev.iald (am_dt kX10_firstOf 11 rfl) (am_L.s f1 24 rfl) f2 ?_
    refine Ev.iload_n 1 (am_dt kX10_firstOf 12 rfl) rfl rfl ?_
    refine Ev.icmp_ne (tgt := 58) (am_dt kX10_firstOf 13 rfl) (by decide) (fun c => ?_) (fun c => ?_)
    · have k := k.2 c
      refine Ev.iinc (v := x4 + 1) (lv' := [(4, .int (x4 + 1)), (0, .ref a0), (1, .int x1), (2, .int x2), (3, .int x3)]) 4 (am_dt kX10_firstOf 32 rfl) rfl rfl (by decide) rfl ?_
      refine Ev.goto (tgt := 5) (am_dt kX10_firstOf 33 rfl) (by decide) ?_
      exact Ev.sub [1, 2, 3, 4, 0] rfl k
    · have k := k.1 c
      refine Ev.aload_n 0 (am_dt kX10_firstOf 14 rfl) rfl rfl ?_
      refine Ev.iload 4 (am_dt kX10_firstOf 15 rfl) rfl ?_
      refine Ev.iload_n 2 (am_dt kX10_firstOf 16 rfl) rfl rfl ?_
      refine Ev.callV (ci := 10) (v := mX10_isWaiting) (As := [.int x4, .int x2]) (st := []) okX10_isWaiting wd_718 wd_719 wd_720 (am_dt kX10_firstOf 17 rfl) (by decide) rfl rfl (Nat.le_of_ble_eq_true rfl) (Nat.le_of_ble_eq_true rfl) f1.1 ?_
      refine EvM.mono k (fun r4 h3 k => ?_)
      obtain ⟨v5, rfl, k⟩ := k
      show Ev w _ _ _ 32 _ [.int v5] _ _
      refine Ev.if_eq (tgt := 58) (am_dt kX10_firstOf 18 rfl) (by decide) (fun c => ?_) (fun c => ?_)
      · have k := k.1 c
        refine Ev.iinc (v := x4 + 1) (lv' := [(4, .int (x4 + 1)), (0, .ref a0), (1, .int x1), (2, .int x2), (3, .int x3)]) 4 (am_dt kX10_firstOf 32 rfl) rfl rfl (by decide) rfl ?_
        refine Ev.goto (tgt := 5) (am_dt kX10_firstOf 33 rfl) (by decide) ?_
        exact Ev.sub [1, 2, 3, 4, 0] rfl k
      · have k := k.2 c
        refine Ev.iload_n 3 (am_dt kX10_firstOf 19 rfl) rfl rfl ?_
        refine Ev.if_lt (tgt := 55) (am_dt kX10_firstOf 20 rfl) (by decide) (fun c => ?_) (fun c => ?_)
        · have k := k.1 c
          refine Ev.iload 4 (am_dt kX10_firstOf 30 rfl) rfl ?_
          refine Ev.istore_n (lv' := [(3, .int x4), (0, .ref a0), (1, .int x1), (2, .int x2), (4, .int x4)]) (am_dt kX10_firstOf 31 rfl) rfl (by decide) rfl ?_
          refine Ev.iinc (v := x4 + 1) (lv' := [(4, .int (x4 + 1)), (3, .int x4), (0, .ref a0), (1, .int x1), (2, .int x2)]) 4 (am_dt kX10_firstOf 32 rfl) rfl rfl (by decide) rfl ?_
          refine Ev.goto (tgt := 5) (am_dt kX10_firstOf 33 rfl) (by decide) ?_
          exact Ev.sub [2, 3, 4, 1, 0] rfl k
        · have k := k.2 c
          refine Ev.aload_n 0 (am_dt kX10_firstOf 21 rfl) rfl rfl ?_
          obtain ⟨f6, k⟩ := k
          refine Ev.getRe (ci := 10) (k := 38) (r := a0 + 26) (am_dt kX10_firstOf 22 rfl) (by decide) (by decide) rfl wd_567 f6.1 (am_L.r f6 25 rfl) (by omega) ?_
          refine Ev.iload 4 (am_dt kX10_firstOf 23 rfl) rfl ?_
          obtain ⟨f7, k⟩ := k
          refine Ev.iald (am_dt kX10_firstOf 24 rfl) (am_L.s f6 25 rfl) f7 ?_
          refine Ev.aload_n 0 (am_dt kX10_firstOf 25 rfl) rfl rfl ?_
          refine Ev.getRe (ci := 10) (k := 38) (r := a0 + 26) (am_dt kX10_firstOf 26 rfl) (by decide) (by decide) rfl wd_567 f6.1 (am_L.r f6 25 rfl) (by omega) ?_
          refine Ev.iload_n 3 (am_dt kX10_firstOf 27 rfl) rfl rfl ?_
          obtain ⟨f8, k⟩ := k
          refine Ev.iald (am_dt kX10_firstOf 28 rfl) (am_L.s f6 25 rfl) f8 ?_
          refine Ev.icmp_ge (tgt := 58) (am_dt kX10_firstOf 29 rfl) (by decide) (fun c => ?_) (fun c => ?_)
          · have k := k.1 c
            refine Ev.iinc (v := x4 + 1) (lv' := [(4, .int (x4 + 1)), (0, .ref a0), (1, .int x1), (2, .int x2), (3, .int x3)]) 4 (am_dt kX10_firstOf 32 rfl) rfl rfl (by decide) rfl ?_
            refine Ev.goto (tgt := 5) (am_dt kX10_firstOf 33 rfl) (by decide) ?_
            exact Ev.sub [1, 2, 3, 4, 0] rfl k
          · have k := k.2 c
            refine Ev.iload 4 (am_dt kX10_firstOf 30 rfl) rfl ?_
            refine Ev.istore_n (lv' := [(3, .int x4), (0, .ref a0), (1, .int x1), (2, .int x2), (4, .int x4)]) (am_dt kX10_firstOf 31 rfl) rfl (by decide) rfl ?_
            refine Ev.iinc (v := x4 + 1) (lv' := [(4, .int (x4 + 1)), (3, .int x4), (0, .ref a0), (1, .int x1), (2, .int x2)]) 4 (am_dt kX10_firstOf 32 rfl) rfl rfl (by decide) rfl ?_
            refine Ev.goto (tgt := 5) (am_dt kX10_firstOf 33 rfl) (by decide) ?_
            exact Ev.sub [2, 3, 4, 1, 0] rfl k
set_option maxRecDepth 20000 in
set_option maxHeartbeats 2000000 in
theorem bX10_leaves_0 {w : am_W} {d : Nat} {h : am_H} {Q : Option Value → am_H → Prop} {a0 : Nat} {x1 : Int32} {x2 : Int32}  (k : (am_L 10 a0 h) ∧ (EvM w mX10_firstOf d [.ref a0, .int x1, .int x2] h (fun r3 h2 => ∃ v4 : Int32, r3 = some (.int v4) ∧ (Ev w (am_Z w) mX10_leaves (d + 1) 10 [(0, .ref a0), (1, .int x1), (2, .int x2), (3, .int 0), (4, .int v4)] [] h2 Q)))) : EvM w mX10_leaves (d + 1) [.ref a0, .int x1, .int x2] h Q := by
  show Ev w (am_Z w) mX10_leaves (d + 1) 0 [(0, .ref a0), (1, .int x1), (2, .int x2)] [] h Q
  refine Ev.iconst (v := 0) (am_dt kX10_leaves 0 rfl) (by decide) ?_
  refine Ev.istore_n (lv' := [(3, .int 0), (0, .ref a0), (1, .int x1), (2, .int x2)]) (am_dt kX10_leaves 1 rfl) rfl (by decide) rfl ?_
  refine Ev.aload_n 1 (am_dt kX10_leaves 2 rfl) rfl rfl ?_
  refine Ev.iload_n 2 (am_dt kX10_leaves 3 rfl) rfl rfl ?_
  refine Ev.iload_n 3 (am_dt kX10_leaves 4 rfl) rfl rfl ?_
  obtain ⟨f1, k⟩ := k
  refine Ev.callV (ci := 10) (v := mX10_firstOf) (As := [.int x1, .int x2]) (st := []) okX10_firstOf wd_721 wd_722 wd_723 (am_dt kX10_leaves 5 rfl) (by decide) rfl rfl (Nat.le_of_ble_eq_true rfl) (Nat.le_of_ble_eq_true rfl) f1.1 ?_
  refine EvM.mono k (fun r3 h2 k => ?_)
  obtain ⟨v4, rfl, k⟩ := k
  show Ev w _ _ _ 8 _ [.int v4] _ _
  refine Ev.istore (lv' := [(4, .int v4), (3, .int 0), (0, .ref a0), (1, .int x1), (2, .int x2)]) (am_dt kX10_leaves 6 rfl) (by decide) rfl ?_
  exact Ev.sub [2, 3, 4, 1, 0] rfl k
set_option maxRecDepth 20000 in
set_option maxHeartbeats 2000000 in
theorem bX10_leaves_10 {w : am_W} {d : Nat} {h : am_H} {Q : Option Value → am_H → Prop} {a0 : Nat} {x1 : Int32} {x2 : Int32} {x3 : Int32} {x4 : Int32}  (k : (x4 < 0 → (Q (some (.int x3)) h)) ∧ (¬ x4 < 0 → ((am_L 10 a0 h) ∧ ((vp_in 0 (hN h (a0 + 2))) ∧ (((hI h (a0 + 2) (Int32.toNatClampNeg 0)) ≤ x3 → (Q (some (.int x3)) h)) ∧ (¬ (hI h (a0 + 2) (Int32.toNatClampNeg 0)) ≤ x3 → ((vp_in x4 (hN h (a0 + 30))) ∧ (∀ h4 : am_H, h4 = sI h (a0 + 30) (Int32.toNatClampNeg x4) x2 → ((vp_in x4 (hN h4 (a0 + 31))) ∧ (∀ h6 : am_H, h6 = sI h4 (a0 + 31) (Int32.toNatClampNeg x4) (hI h4 a0 44) → (EvM w mX10_firstOf d [.ref a0, .int x1, .int x2] h6 (fun r8 h7 => ∃ v9 : Int32, r8 = some (.int v9) ∧ (Ev w (am_Z w) mX10_leaves (d + 1) 10 [(0, .ref a0), (1, .int x1), (2, .int x2), (3, .int (x3 + 1)), (4, .int v9)] [] h7 Q))))))))))))) : Ev w (am_Z w) mX10_leaves (d + 1) 10 [(0, .ref a0), (1, .int x1), (2, .int x2), (3, .int x3), (4, .int x4)] [] h Q := by
  refine Ev.iload 4 (am_dt kX10_leaves 7 rfl) rfl ?_
  refine Ev.if_lt (tgt := 58) (am_dt kX10_leaves 8 rfl) (by decide) (fun c => ?_) (fun c => ?_)
  · have k := k.1 c
    refine Ev.iload_n 3 (am_dt kX10_leaves 33 rfl) rfl rfl ?_
    exact Ev.iret .int (am_dt kX10_leaves 34 rfl) rfl rfl k
  · have k := k.2 c
    refine Ev.iload_n 3 (am_dt kX10_leaves 9 rfl) rfl rfl ?_
    refine Ev.aload_n 0 (am_dt kX10_leaves 10 rfl) rfl rfl ?_
    obtain ⟨f1, k⟩ := k
    refine Ev.getRe (ci := 10) (k := 10) (r := a0 + 2) (am_dt kX10_leaves 11 rfl) (by decide) (by decide) rfl wd_543 f1.1 (am_L.r f1 1 rfl) (by omega) ?_
    refine Ev.iconst (v := 0) (am_dt kX10_leaves 12 rfl) (by decide) ?_
    obtain ⟨f2, k⟩ := k
    refine Ev.iald (am_dt kX10_leaves 13 rfl) (am_L.s f1 1 rfl) f2 ?_
    refine Ev.icmp_ge (tgt := 58) (am_dt kX10_leaves 14 rfl) (by decide) (fun c => ?_) (fun c => ?_)
    · have k := k.1 c
      refine Ev.iload_n 3 (am_dt kX10_leaves 33 rfl) rfl rfl ?_
      exact Ev.iret .int (am_dt kX10_leaves 34 rfl) rfl rfl k
    · have k := k.2 c
      refine Ev.aload_n 0 (am_dt kX10_leaves 15 rfl) rfl rfl ?_
      refine Ev.getRe (ci := 10) (k := 42) (r := a0 + 30) (am_dt kX10_leaves 16 rfl) (by decide) (by decide) rfl wd_571 f1.1 (am_L.r f1 29 rfl) (by omega) ?_
      refine Ev.iload 4 (am_dt kX10_leaves 17 rfl) rfl ?_
      refine Ev.iload_n 2 (am_dt kX10_leaves 18 rfl) rfl rfl ?_
      obtain ⟨f3, k⟩ := k
      refine Ev.iast' (am_dt kX10_leaves 19 rfl) (am_L.s f1 29 rfl) f3 (fun h4 eh4 => ?_)
      have k := k h4 eh4
      have f1 := am_LsI eh4 f1
      refine Ev.aload_n 0 (am_dt kX10_leaves 20 rfl) rfl rfl ?_
      refine Ev.getRe (ci := 10) (k := 43) (r := a0 + 31) (am_dt kX10_leaves 21 rfl) (by decide) (by decide) rfl wd_572 f1.1 (am_L.r f1 30 rfl) (by omega) ?_
      refine Ev.iload 4 (am_dt kX10_leaves 22 rfl) rfl ?_
      refine Ev.aload_n 0 (am_dt kX10_leaves 23 rfl) rfl rfl ?_
      refine Ev.getI (ci := 10) (k := 44) (am_dt kX10_leaves 24 rfl) (by decide) (by decide) rfl wd_704 f1.1 ?_
      obtain ⟨f5, k⟩ := k
      refine Ev.iast' (am_dt kX10_leaves 25 rfl) (am_L.s f1 30 rfl) f5 (fun h6 eh6 => ?_)
      have k := k h6 eh6
      have f1 := am_LsI eh6 f1
      refine Ev.iinc (v := x3 + 1) (lv' := [(3, .int (x3 + 1)), (0, .ref a0), (1, .int x1), (2, .int x2), (4, .int x4)]) 3 (am_dt kX10_leaves 26 rfl) rfl rfl (by decide) rfl ?_
      refine Ev.aload_n 1 (am_dt kX10_leaves 27 rfl) rfl rfl ?_
      refine Ev.iload_n 2 (am_dt kX10_leaves 28 rfl) rfl rfl ?_
      refine Ev.iload_n 3 (am_dt kX10_leaves 29 rfl) rfl rfl ?_
      refine Ev.callV (ci := 10) (v := mX10_firstOf) (As := [.int x1, .int x2]) (st := []) okX10_firstOf wd_721 wd_722 wd_723 (am_dt kX10_leaves 30 rfl) (by decide) rfl rfl (Nat.le_of_ble_eq_true rfl) (Nat.le_of_ble_eq_true rfl) f1.1 ?_
      refine EvM.mono k (fun r8 h7 k => ?_)
      obtain ⟨v9, rfl, k⟩ := k
      show Ev w _ _ _ 53 _ [.int v9] _ _
      refine Ev.istore (lv' := [(4, .int v9), (3, .int (x3 + 1)), (0, .ref a0), (1, .int x1), (2, .int x2)]) (am_dt kX10_leaves 31 rfl) (by decide) rfl ?_
      refine Ev.goto (tgt := 10) (am_dt kX10_leaves 32 rfl) (by decide) ?_
      exact Ev.sub [2, 3, 4, 1, 0] rfl k
set_option maxRecDepth 20000 in
set_option maxHeartbeats 2000000 in
theorem bX10_ringsOnce_0 {w : am_W} {d : Nat} {h : am_H} {Q : Option Value → am_H → Prop} {a0 : Nat} {x1 : Int32}  (k : (am_L 10 a0 h) ∧ ((vp_in (hI h a0 44) (hN h (a0 + 32))) ∧ (∀ h3 : am_H, h3 = sI h (a0 + 32) (Int32.toNatClampNeg (hI h a0 44)) x1 → (EvM w mX10_leaves d [.ref a0, .int 0, .int x1] h3 (fun r5 h4 => ∃ v6 : Int32, r5 = some (.int v6) ∧ ((hK h4 (a0 + 33) = 12) ∧ ((vp_in (hI h3 a0 44) (hN h4 (a0 + 33))) ∧ (∀ h9 : am_H, h9 = sI h4 (a0 + 33) (Int32.toNatClampNeg (hI h3 a0 44)) v6 → ((am_L 10 a0 h9) ∧ (EvM w mX10_leaves d [.ref a0, .int 1, .int x1] h9 (fun r12 h11 => ∃ v13 : Int32, r12 = some (.int v13) ∧ ((hK h11 (a0 + 34) = 12) ∧ ((vp_in (hI h9 a0 44) (hN h11 (a0 + 34))) ∧ (∀ h16 : am_H, h16 = sI h11 (a0 + 34) (Int32.toNatClampNeg (hI h9 a0 44)) v13 → ((am_L 10 a0 h16) ∧ (∀ h18 : am_H, h18 = sI h16 a0 44 ((hI h16 a0 44) + 1) → ((x1 < (hI h18 a0 48) → ((vp_in 1 (hN h18 (a0 + 2))) ∧ (∀ h20 : am_H, h20 = sI h18 a0 49 (x1 + (hI h18 (a0 + 2) (Int32.toNatClampNeg 1))) → (Q none h20)))) ∧ (¬ x1 < (hI h18 a0 48) → ((vp_in 1 (hN h18 (a0 + 2))) ∧ (∀ h22 : am_H, h22 = sI h18 a0 48 (x1 + (hI h18 (a0 + 2) (Int32.toNatClampNeg 1))) → (Q none h22))))))))))))))))))))) : EvM w mX10_ringsOnce (d + 1) [.ref a0, .int x1] h Q := by
  show Ev w (am_Z w) mX10_ringsOnce (d + 1) 0 [(0, .ref a0), (1, .int x1)] [] h Q
  refine Ev.aload_n 0 (am_dt kX10_ringsOnce 0 rfl) rfl rfl ?_
  obtain ⟨f1, k⟩ := k
  refine Ev.getRe (ci := 10) (k := 45) (r := a0 + 32) (am_dt kX10_ringsOnce 1 rfl) (by decide) (by decide) rfl wd_573 f1.1 (am_L.r f1 31 rfl) (by omega) ?_
  refine Ev.aload_n 0 (am_dt kX10_ringsOnce 2 rfl) rfl rfl ?_
  refine Ev.getI (ci := 10) (k := 44) (am_dt kX10_ringsOnce 3 rfl) (by decide) (by decide) rfl wd_704 f1.1 ?_
  refine Ev.iload_n 1 (am_dt kX10_ringsOnce 4 rfl) rfl rfl ?_
  obtain ⟨f2, k⟩ := k
  refine Ev.iast' (am_dt kX10_ringsOnce 5 rfl) (am_L.s f1 31 rfl) f2 (fun h3 eh3 => ?_)
  have k := k h3 eh3
  have f1 := am_LsI eh3 f1
  refine Ev.aload_n 0 (am_dt kX10_ringsOnce 6 rfl) rfl rfl ?_
  refine Ev.getRe (ci := 10) (k := 46) (r := a0 + 33) (am_dt kX10_ringsOnce 7 rfl) (by decide) (by decide) rfl wd_574 f1.1 (am_L.r f1 32 rfl) (by omega) ?_
  refine Ev.aload_n 0 (am_dt kX10_ringsOnce 8 rfl) rfl rfl ?_
  refine Ev.getI (ci := 10) (k := 44) (am_dt kX10_ringsOnce 9 rfl) (by decide) (by decide) rfl wd_704 f1.1 ?_
  refine Ev.aload_n 0 (am_dt kX10_ringsOnce 10 rfl) rfl rfl ?_
  refine Ev.iconst (v := 0) (am_dt kX10_ringsOnce 11 rfl) (by decide) ?_
  refine Ev.iload_n 1 (am_dt kX10_ringsOnce 12 rfl) rfl rfl ?_
  refine Ev.callV (ci := 10) (v := mX10_leaves) (As := [.int 0, .int x1]) (st := [.int (hI h3 a0 44), .ref (a0 + 33)]) okX10_leaves wd_724 wd_725 wd_726 (am_dt kX10_ringsOnce 13 rfl) (by decide) rfl rfl (Nat.le_of_ble_eq_true rfl) (Nat.le_of_ble_eq_true rfl) f1.1 ?_
  refine EvM.mono k (fun r5 h4 k => ?_)
  obtain ⟨v6, rfl, k⟩ := k
  show Ev w _ _ _ 24 _ [.int v6, .int (hI h3 a0 44), .ref (a0 + 33)] _ _
  obtain ⟨f7, k⟩ := k
  obtain ⟨f8, k⟩ := k
  refine Ev.iast' (am_dt kX10_ringsOnce 14 rfl) f7 f8 (fun h9 eh9 => ?_)
  have k := k h9 eh9
  have f7 := kI eh9 f7
  refine Ev.aload_n 0 (am_dt kX10_ringsOnce 15 rfl) rfl rfl ?_
  obtain ⟨f10, k⟩ := k
  refine Ev.getRe (ci := 10) (k := 47) (r := a0 + 34) (am_dt kX10_ringsOnce 16 rfl) (by decide) (by decide) rfl wd_575 f10.1 (am_L.r f10 33 rfl) (by omega) ?_
  refine Ev.aload_n 0 (am_dt kX10_ringsOnce 17 rfl) rfl rfl ?_
  refine Ev.getI (ci := 10) (k := 44) (am_dt kX10_ringsOnce 18 rfl) (by decide) (by decide) rfl wd_704 f10.1 ?_
  refine Ev.aload_n 0 (am_dt kX10_ringsOnce 19 rfl) rfl rfl ?_
  refine Ev.iconst (v := 1) (am_dt kX10_ringsOnce 20 rfl) (by decide) ?_
  refine Ev.iload_n 1 (am_dt kX10_ringsOnce 21 rfl) rfl rfl ?_
  refine Ev.callV (ci := 10) (v := mX10_leaves) (As := [.int 1, .int x1]) (st := [.int (hI h9 a0 44), .ref (a0 + 34)]) okX10_leaves wd_724 wd_725 wd_726 (am_dt kX10_ringsOnce 22 rfl) (by decide) rfl rfl (Nat.le_of_ble_eq_true rfl) (Nat.le_of_ble_eq_true rfl) f10.1 ?_
  refine EvM.mono k (fun r12 h11 k => ?_)
  obtain ⟨v13, rfl, k⟩ := k
  show Ev w _ _ _ 39 _ [.int v13, .int (hI h9 a0 44), .ref (a0 + 34)] _ _
  obtain ⟨f14, k⟩ := k
  obtain ⟨f15, k⟩ := k
  refine Ev.iast' (am_dt kX10_ringsOnce 23 rfl) f14 f15 (fun h16 eh16 => ?_)
  have k := k h16 eh16
  have f14 := kI eh16 f14
  refine Ev.aload_n 0 (am_dt kX10_ringsOnce 24 rfl) rfl rfl ?_
  refine Ev.dup (am_dt kX10_ringsOnce 25 rfl) rfl ?_
  obtain ⟨f17, k⟩ := k
  refine Ev.getI (ci := 10) (k := 44) (am_dt kX10_ringsOnce 26 rfl) (by decide) (by decide) rfl wd_704 f17.1 ?_
  refine Ev.iconst (v := 1) (am_dt kX10_ringsOnce 27 rfl) (by decide) ?_
  refine Ev.iadd (am_dt kX10_ringsOnce 28 rfl) ?_
  refine Ev.putI' (ci := 10) (k := 44) (am_dt kX10_ringsOnce 29 rfl) (by decide) (by decide) wd_704 rfl rfl rfl rfl f17.1 (fun h18 eh18 => ?_)
  have k := k h18 eh18
  have f14 := kI eh18 f14
  have f17 := am_LsI eh18 f17
  refine Ev.aload_n 0 (am_dt kX10_ringsOnce 30 rfl) rfl rfl ?_
  refine Ev.getI (ci := 10) (k := 48) (am_dt kX10_ringsOnce 31 rfl) (by decide) (by decide) rfl wd_705 f17.1 ?_
  refine Ev.iload_n 1 (am_dt kX10_ringsOnce 32 rfl) rfl rfl ?_
  refine Ev.icmp_gt (tgt := 73) (am_dt kX10_ringsOnce 33 rfl) (by decide) (fun c => ?_) (fun c => ?_)
  · have k := k.1 c
    refine Ev.aload_n 0 (am_dt kX10_ringsOnce 43 rfl) rfl rfl ?_
    refine Ev.iload_n 1 (am_dt kX10_ringsOnce 44 rfl) rfl rfl ?_
    refine Ev.aload_n 0 (am_dt kX10_ringsOnce 45 rfl) rfl rfl ?_
    refine Ev.getRe (ci := 10) (k := 10) (r := a0 + 2) (am_dt kX10_ringsOnce 46 rfl) (by decide) (by decide) rfl wd_543 f17.1 (am_L.r f17 1 rfl) (by omega) ?_
    refine Ev.iconst (v := 1) (am_dt kX10_ringsOnce 47 rfl) (by decide) ?_
    obtain ⟨f19, k⟩ := k
    refine Ev.iald (am_dt kX10_ringsOnce 48 rfl) (am_L.s f17 1 rfl) f19 ?_
    refine Ev.iadd (am_dt kX10_ringsOnce 49 rfl) ?_
    refine Ev.putI' (ci := 10) (k := 49) (am_dt kX10_ringsOnce 50 rfl) (by decide) (by decide) wd_706 rfl rfl rfl rfl f17.1 (fun h20 eh20 => ?_)
    have k := k h20 eh20
    have f14 := kI eh20 f14
    have f17 := am_LsI eh20 f17
    exact Ev.vret (am_dt kX10_ringsOnce 51 rfl) rfl k
  · have k := k.2 c
    refine Ev.aload_n 0 (am_dt kX10_ringsOnce 34 rfl) rfl rfl ?_
    refine Ev.iload_n 1 (am_dt kX10_ringsOnce 35 rfl) rfl rfl ?_
    refine Ev.aload_n 0 (am_dt kX10_ringsOnce 36 rfl) rfl rfl ?_
    refine Ev.getRe (ci := 10) (k := 10) (r := a0 + 2) (am_dt kX10_ringsOnce 37 rfl) (by decide) (by decide) rfl wd_543 f17.1 (am_L.r f17 1 rfl) (by omega) ?_
    refine Ev.iconst (v := 1) (am_dt kX10_ringsOnce 38 rfl) (by decide) ?_
    obtain ⟨f21, k⟩ := k
    refine Ev.iald (am_dt kX10_ringsOnce 39 rfl) (am_L.s f17 1 rfl) f21 ?_
    refine Ev.iadd (am_dt kX10_ringsOnce 40 rfl) ?_
    refine Ev.putI' (ci := 10) (k := 48) (am_dt kX10_ringsOnce 41 rfl) (by decide) (by decide) wd_705 rfl rfl rfl rfl f17.1 (fun h22 eh22 => ?_)
    have k := k h22 eh22
    have f14 := kI eh22 f14
    have f17 := am_LsI eh22 f17
    refine Ev.goto (tgt := 85) (am_dt kX10_ringsOnce 42 rfl) (by decide) ?_
    exact Ev.vret (am_dt kX10_ringsOnce 51 rfl) rfl k
set_option maxRecDepth 20000 in
set_option maxHeartbeats 2000000 in
theorem bX10_goesOn_0 {w : am_W} {d : Nat} {h : am_H} {Q : Option Value → am_H → Prop} {a0 : Nat} {x1 : Int32} {x2 : Int32}  (k : Ev w (am_Z w) mX10_goesOn (d + 1) 2 [(0, .ref a0), (2, .int x2), (3, .int x1)] [] h Q) : EvM w mX10_goesOn (d + 1) [.ref a0, .int x1, .int x2] h Q := by
  show Ev w (am_Z w) mX10_goesOn (d + 1) 0 [(0, .ref a0), (1, .int x1), (2, .int x2)] [] h Q
  refine Ev.iload_n 1 (am_dt kX10_goesOn 0 rfl) rfl rfl ?_
  refine Ev.istore_n (lv' := [(3, .int x1), (0, .ref a0), (1, .int x1), (2, .int x2)]) (am_dt kX10_goesOn 1 rfl) rfl (by decide) rfl ?_
  exact Ev.sub [1, 3, 0] rfl k
set_option maxRecDepth 20000 in
set_option maxHeartbeats 2000000 in
theorem bX10_goesOn_2 {w : am_W} {d : Nat} {h : am_H} {Q : Option Value → am_H → Prop} {a0 : Nat} {x2 : Int32} {x3 : Int32}  (k : (x2 < x3 → (Q none h)) ∧ (¬ x2 < x3 → (Ev w (am_Z w) mX10_goesOn (d + 1) 7 [(0, .ref a0), (2, .int x2), (3, .int x3)] [] h Q))) : Ev w (am_Z w) mX10_goesOn (d + 1) 2 [(0, .ref a0), (2, .int x2), (3, .int x3)] [] h Q := by
  refine Ev.iload_n 2 (am_dt kX10_goesOn 2 rfl) rfl rfl ?_
  refine Ev.iload_n 1 (am_dt kX10_goesOn 3 rfl) rfl rfl ?_
  refine Ev.icmp_gt (tgt := 29) (am_dt kX10_goesOn 4 rfl) (by decide) (fun c => ?_) (fun c => ?_)
  · have k := k.1 c
    exact Ev.vret (am_dt kX10_goesOn 15 rfl) rfl k
  · have k := k.2 c
    exact k
set_option maxRecDepth 20000 in
set_option maxHeartbeats 2000000 in
theorem bX10_goesOn_7 {w : am_W} {d : Nat} {h : am_H} {Q : Option Value → am_H → Prop} {a0 : Nat} {x2 : Int32} {x3 : Int32}  (k : (am_L 10 a0 h) ∧ (EvM w mX10_wouldRing d [.ref a0, .int x3] h (fun r3 h2 => ∃ v4 : Int32, r3 = some (.int v4) ∧ ((v4 = 0 → (Ev w (am_Z w) mX10_goesOn (d + 1) 2 [(0, .ref a0), (2, .int x2), (3, .int (x3 + 1))] [] h2 Q)) ∧ (¬ v4 = 0 → ((am_L 10 a0 h2) ∧ (EvM w mX10_ringsOnce d [.ref a0, .int x3] h2 (fun r7 h6 => r7 = none ∧ (Ev w (am_Z w) mX10_goesOn (d + 1) 7 [(0, .ref a0), (2, .int x2), (3, .int x3)] [] h6 Q))))))))) : Ev w (am_Z w) mX10_goesOn (d + 1) 7 [(0, .ref a0), (2, .int x2), (3, .int x3)] [] h Q := by
  refine Ev.aload_n 0 (am_dt kX10_goesOn 5 rfl) rfl rfl ?_
  refine Ev.iload_n 2 (am_dt kX10_goesOn 6 rfl) rfl rfl ?_
  obtain ⟨f1, k⟩ := k
  refine Ev.callV (ci := 10) (v := mX10_wouldRing) (As := [.int x3]) (st := []) okX10_wouldRing wd_727 wd_728 wd_729 (am_dt kX10_goesOn 7 rfl) (by decide) rfl rfl (Nat.le_of_ble_eq_true rfl) (Nat.le_of_ble_eq_true rfl) f1.1 ?_
  refine EvM.mono k (fun r3 h2 k => ?_)
  obtain ⟨v4, rfl, k⟩ := k
  show Ev w _ _ _ 12 _ [.int v4] _ _
  refine Ev.if_eq (tgt := 23) (am_dt kX10_goesOn 8 rfl) (by decide) (fun c => ?_) (fun c => ?_)
  · have k := k.1 c
    refine Ev.iinc (v := x3 + 1) (lv' := [(3, .int (x3 + 1)), (0, .ref a0), (2, .int x2)]) 2 (am_dt kX10_goesOn 13 rfl) rfl rfl (by decide) rfl ?_
    refine Ev.goto (tgt := 2) (am_dt kX10_goesOn 14 rfl) (by decide) ?_
    exact Ev.sub [1, 2, 0] rfl k
  · have k := k.2 c
    refine Ev.aload_n 0 (am_dt kX10_goesOn 9 rfl) rfl rfl ?_
    refine Ev.iload_n 2 (am_dt kX10_goesOn 10 rfl) rfl rfl ?_
    obtain ⟨f5, k⟩ := k
    refine Ev.callV (ci := 10) (v := mX10_ringsOnce) (As := [.int x3]) (st := []) okX10_ringsOnce wd_730 wd_731 wd_732 (am_dt kX10_goesOn 11 rfl) (by decide) rfl rfl (Nat.le_of_ble_eq_true rfl) (Nat.le_of_ble_eq_true rfl) f5.1 ?_
    refine EvM.mono k (fun r7 h6 k => ?_)
    obtain ⟨rfl, k⟩ := k
    show Ev w _ _ _ 20 _ [] _ _
    refine Ev.goto (tgt := 7) (am_dt kX10_goesOn 12 rfl) (by decide) ?_
    exact k
set_option maxRecDepth 20000 in
set_option maxHeartbeats 2000000 in
theorem bX10_day_0 {w : am_W} {d : Nat} {h : am_H} {Q : Option Value → am_H → Prop} {a0 : Nat} {x1 : Int32}  (k : (am_L 10 a0 h) ∧ (EvM w mX10_tellsAll d [.ref a0, .int x1] h (fun r3 h2 => r3 = none ∧ ((am_L 10 a0 h2) ∧ (EvM w mX10_goesOn d [.ref a0, .int 0, .int 1439] h2 (fun r6 h5 => r6 = none ∧ (Q none h5))))))) : EvM w mX10_day (d + 1) [.ref a0, .int x1] h Q := by
  show Ev w (am_Z w) mX10_day (d + 1) 0 [(0, .ref a0), (1, .int x1)] [] h Q
  refine Ev.aload_n 0 (am_dt kX10_day 0 rfl) rfl rfl ?_
  refine Ev.iload_n 1 (am_dt kX10_day 1 rfl) rfl rfl ?_
  obtain ⟨f1, k⟩ := k
  refine Ev.callV (ci := 10) (v := mX10_tellsAll) (As := [.int x1]) (st := []) okX10_tellsAll wd_733 wd_734 wd_735 (am_dt kX10_day 2 rfl) (by decide) rfl rfl (Nat.le_of_ble_eq_true rfl) (Nat.le_of_ble_eq_true rfl) f1.1 ?_
  refine EvM.mono k (fun r3 h2 k => ?_)
  obtain ⟨rfl, k⟩ := k
  show Ev w _ _ _ 5 _ [] _ _
  refine Ev.aload_n 0 (am_dt kX10_day 3 rfl) rfl rfl ?_
  refine Ev.iconst (v := 0) (am_dt kX10_day 4 rfl) (by decide) ?_
  refine Ev.sipush (v := 1439) (am_dt kX10_day 5 rfl) (by decide) ?_
  obtain ⟨f4, k⟩ := k
  refine Ev.callV (ci := 10) (v := mX10_goesOn) (As := [.int 0, .int 1439]) (st := []) okX10_goesOn wd_736 wd_737 wd_738 (am_dt kX10_day 6 rfl) (by decide) rfl rfl (Nat.le_of_ble_eq_true rfl) (Nat.le_of_ble_eq_true rfl) f4.1 ?_
  refine EvM.mono k (fun r6 h5 k => ?_)
  obtain ⟨rfl, k⟩ := k
  show Ev w _ _ _ 13 _ [] _ _
  exact Ev.vret (am_dt kX10_day 7 rfl) rfl k
set_option maxRecDepth 20000 in
set_option maxHeartbeats 2000000 in
theorem bX10_waitOf_0 {w : am_W} {d : Nat} {h : am_H} {Q : Option Value → am_H → Prop} {a0 : Nat} {x1 : Int32}  (k : (am_L 10 a0 h) ∧ ((vp_in x1 (hN h (a0 + 30))) ∧ ((0 ≤ (hI h (a0 + 30) (Int32.toNatClampNeg x1)) → ((vp_in x1 (hN h (a0 + 30))) ∧ ((vp_in x1 (hN h (a0 + 26))) ∧ (Q (some (.int ((hI h (a0 + 30) (Int32.toNatClampNeg x1)) - (hI h (a0 + 26) (Int32.toNatClampNeg x1))))) h)))) ∧ (¬ 0 ≤ (hI h (a0 + 30) (Int32.toNatClampNeg x1)) → ((vp_in x1 (hN h (a0 + 26))) ∧ (Q (some (.int (1440 - (hI h (a0 + 26) (Int32.toNatClampNeg x1))))) h)))))) : EvM w mX10_waitOf d [.ref a0, .int x1] h Q := by
  show Ev w (am_Z w) mX10_waitOf d 0 [(0, .ref a0), (1, .int x1)] [] h Q
  refine Ev.aload_n 0 (am_dt kX10_waitOf 0 rfl) rfl rfl ?_
  obtain ⟨f1, k⟩ := k
  refine Ev.getRe (ci := 10) (k := 42) (r := a0 + 30) (am_dt kX10_waitOf 1 rfl) (by decide) (by decide) rfl wd_571 f1.1 (am_L.r f1 29 rfl) (by omega) ?_
  refine Ev.iload_n 1 (am_dt kX10_waitOf 2 rfl) rfl rfl ?_
  obtain ⟨f2, k⟩ := k
  refine Ev.iald (am_dt kX10_waitOf 3 rfl) (am_L.s f1 29 rfl) f2 ?_
  refine Ev.if_ge (tgt := 15) (am_dt kX10_waitOf 4 rfl) (by decide) (fun c => ?_) (fun c => ?_)
  · have k := k.1 c
    refine Ev.aload_n 0 (am_dt kX10_waitOf 7 rfl) rfl rfl ?_
    refine Ev.getRe (ci := 10) (k := 42) (r := a0 + 30) (am_dt kX10_waitOf 8 rfl) (by decide) (by decide) rfl wd_571 f1.1 (am_L.r f1 29 rfl) (by omega) ?_
    refine Ev.iload_n 1 (am_dt kX10_waitOf 9 rfl) rfl rfl ?_
    obtain ⟨f3, k⟩ := k
    refine Ev.iald (am_dt kX10_waitOf 10 rfl) (am_L.s f1 29 rfl) f3 ?_
    refine Ev.aload_n 0 (am_dt kX10_waitOf 11 rfl) rfl rfl ?_
    refine Ev.getRe (ci := 10) (k := 38) (r := a0 + 26) (am_dt kX10_waitOf 12 rfl) (by decide) (by decide) rfl wd_567 f1.1 (am_L.r f1 25 rfl) (by omega) ?_
    refine Ev.iload_n 1 (am_dt kX10_waitOf 13 rfl) rfl rfl ?_
    obtain ⟨f4, k⟩ := k
    refine Ev.iald (am_dt kX10_waitOf 14 rfl) (am_L.s f1 25 rfl) f4 ?_
    refine Ev.isub (am_dt kX10_waitOf 15 rfl) ?_
    exact Ev.iret .int (am_dt kX10_waitOf 16 rfl) rfl rfl k
  · have k := k.2 c
    refine Ev.sipush (v := 1440) (am_dt kX10_waitOf 5 rfl) (by decide) ?_
    refine Ev.goto (tgt := 21) (am_dt kX10_waitOf 6 rfl) (by decide) ?_
    refine Ev.aload_n 0 (am_dt kX10_waitOf 11 rfl) rfl rfl ?_
    refine Ev.getRe (ci := 10) (k := 38) (r := a0 + 26) (am_dt kX10_waitOf 12 rfl) (by decide) (by decide) rfl wd_567 f1.1 (am_L.r f1 25 rfl) (by omega) ?_
    refine Ev.iload_n 1 (am_dt kX10_waitOf 13 rfl) rfl rfl ?_
    obtain ⟨f5, k⟩ := k
    refine Ev.iald (am_dt kX10_waitOf 14 rfl) (am_L.s f1 25 rfl) f5 ?_
    refine Ev.isub (am_dt kX10_waitOf 15 rfl) ?_
    exact Ev.iret .int (am_dt kX10_waitOf 16 rfl) rfl rfl k
set_option maxRecDepth 20000 in
set_option maxHeartbeats 2000000 in
theorem bX10_costAll_0 {w : am_W} {d : Nat} {h : am_H} {Q : Option Value → am_H → Prop} {a0 : Nat} {x1 : Int32}  (k : Ev w (am_Z w) mX10_costAll (d + 1) 4 [(0, .ref a0), (1, .int x1), (2, .int 0), (3, .int 0)] [] h Q) : EvM w mX10_costAll (d + 1) [.ref a0, .int x1] h Q := by
  show Ev w (am_Z w) mX10_costAll (d + 1) 0 [(0, .ref a0), (1, .int x1)] [] h Q
  refine Ev.iconst (v := 0) (am_dt kX10_costAll 0 rfl) (by decide) ?_
  refine Ev.istore_n (lv' := [(2, .int 0), (0, .ref a0), (1, .int x1)]) (am_dt kX10_costAll 1 rfl) rfl (by decide) rfl ?_
  refine Ev.iconst (v := 0) (am_dt kX10_costAll 2 rfl) (by decide) ?_
  refine Ev.istore_n (lv' := [(3, .int 0), (2, .int 0), (0, .ref a0), (1, .int x1)]) (am_dt kX10_costAll 3 rfl) rfl (by decide) rfl ?_
  exact Ev.sub [2, 3, 1, 0] rfl k
set_option maxRecDepth 20000 in
set_option maxHeartbeats 2000000 in
theorem bX10_costAll_4 {w : am_W} {d : Nat} {h : am_H} {Q : Option Value → am_H → Prop} {a0 : Nat} {x1 : Int32} {x2 : Int32} {x3 : Int32}  (k : (am_L 10 a0 h) ∧ (((hI h a0 36) ≤ x3 → (Q (some (.int x2)) h)) ∧ (¬ (hI h a0 36) ≤ x3 → ((x3 = x1 → (Ev w (am_Z w) mX10_costAll (d + 1) 4 [(0, .ref a0), (1, .int x1), (2, .int (x2 + 0)), (3, .int (x3 + 1))] [] h Q)) ∧ (¬ x3 = x1 → ((vp_in x3 (hN h (a0 + 28))) ∧ (EvM w mX10_waitOf d [.ref a0, .int x3] h (fun r4 h3 => ∃ v5 : Int32, r4 = some (.int v5) ∧ (Ev w (am_Z w) mX10_costAll (d + 1) 4 [(0, .ref a0), (1, .int x1), (2, .int (x2 + ((hI h (a0 + 28) (Int32.toNatClampNeg x3)) * v5))), (3, .int (x3 + 1))] [] h3 Q))))))))) : Ev w (am_Z w) mX10_costAll (d + 1) 4 [(0, .ref a0), (1, .int x1), (2, .int x2), (3, .int x3)] [] h Q := by
  refine Ev.iload_n 3 (am_dt kX10_costAll 4 rfl) rfl rfl ?_
  refine Ev.aload_n 0 (am_dt kX10_costAll 5 rfl) rfl rfl ?_
  obtain ⟨f1, k⟩ := k
  refine Ev.getI (ci := 10) (k := 36) (am_dt kX10_costAll 6 rfl) (by decide) (by decide) rfl wd_703 f1.1 ?_
  refine Ev.icmp_ge (tgt := 42) (am_dt kX10_costAll 7 rfl) (by decide) (fun c => ?_) (fun c => ?_)
  · have k := k.1 c
    refine Ev.iload_n 2 (am_dt kX10_costAll 26 rfl) rfl rfl ?_
    exact Ev.iret .int (am_dt kX10_costAll 27 rfl) rfl rfl k
  · have k := k.2 c
    refine Ev.iload_n 2 (am_dt kX10_costAll 8 rfl) rfl rfl ?_
    refine Ev.iload_n 3 (am_dt kX10_costAll 9 rfl) rfl rfl ?_
    refine Ev.iload_n 1 (am_dt kX10_costAll 10 rfl) rfl rfl ?_
    refine Ev.icmp_ne (tgt := 22) (am_dt kX10_costAll 11 rfl) (by decide) (fun c => ?_) (fun c => ?_)
    · have k := k.2 c
      refine Ev.aload_n 0 (am_dt kX10_costAll 14 rfl) rfl rfl ?_
      refine Ev.getRe (ci := 10) (k := 40) (r := a0 + 28) (am_dt kX10_costAll 15 rfl) (by decide) (by decide) rfl wd_569 f1.1 (am_L.r f1 27 rfl) (by omega) ?_
      refine Ev.iload_n 3 (am_dt kX10_costAll 16 rfl) rfl rfl ?_
      obtain ⟨f2, k⟩ := k
      refine Ev.iald (am_dt kX10_costAll 17 rfl) (am_L.s f1 27 rfl) f2 ?_
      refine Ev.aload_n 0 (am_dt kX10_costAll 18 rfl) rfl rfl ?_
      refine Ev.iload_n 3 (am_dt kX10_costAll 19 rfl) rfl rfl ?_
      refine Ev.callV (ci := 10) (v := mX10_waitOf) (As := [.int x3]) (st := [.int (hI h (a0 + 28) (Int32.toNatClampNeg x3)), .int x2]) okX10_waitOf wd_739 wd_740 wd_741 (am_dt kX10_costAll 20 rfl) (by decide) rfl rfl (Nat.le_of_ble_eq_true rfl) (Nat.le_of_ble_eq_true rfl) f1.1 ?_
      refine EvM.mono k (fun r4 h3 k => ?_)
      obtain ⟨v5, rfl, k⟩ := k
      show Ev w _ _ _ 33 _ [.int v5, .int (hI h (a0 + 28) (Int32.toNatClampNeg x3)), .int x2] _ _
      refine Ev.imul (am_dt kX10_costAll 21 rfl) ?_
      refine Ev.iadd (am_dt kX10_costAll 22 rfl) ?_
      refine Ev.istore_n (lv' := [(2, .int (x2 + ((hI h (a0 + 28) (Int32.toNatClampNeg x3)) * v5))), (0, .ref a0), (1, .int x1), (3, .int x3)]) (am_dt kX10_costAll 23 rfl) rfl (by decide) rfl ?_
      refine Ev.iinc (v := x3 + 1) (lv' := [(3, .int (x3 + 1)), (2, .int (x2 + ((hI h (a0 + 28) (Int32.toNatClampNeg x3)) * v5))), (0, .ref a0), (1, .int x1)]) 3 (am_dt kX10_costAll 24 rfl) rfl rfl (by decide) rfl ?_
      refine Ev.goto (tgt := 4) (am_dt kX10_costAll 25 rfl) (by decide) ?_
      exact Ev.sub [2, 3, 1, 0] rfl k
    · have k := k.1 c
      refine Ev.iconst (v := 0) (am_dt kX10_costAll 12 rfl) (by decide) ?_
      refine Ev.goto (tgt := 34) (am_dt kX10_costAll 13 rfl) (by decide) ?_
      refine Ev.iadd (am_dt kX10_costAll 22 rfl) ?_
      refine Ev.istore_n (lv' := [(2, .int (x2 + 0)), (0, .ref a0), (1, .int x1), (3, .int x3)]) (am_dt kX10_costAll 23 rfl) rfl (by decide) rfl ?_
      refine Ev.iinc (v := x3 + 1) (lv' := [(3, .int (x3 + 1)), (2, .int (x2 + 0)), (0, .ref a0), (1, .int x1)]) 3 (am_dt kX10_costAll 24 rfl) rfl rfl (by decide) rfl ?_
      refine Ev.goto (tgt := 4) (am_dt kX10_costAll 25 rfl) (by decide) ?_
      exact Ev.sub [2, 3, 1, 0] rfl k
set_option maxRecDepth 20000 in
set_option maxHeartbeats 2000000 in
theorem bX10_rings_0 {w : am_W} {d : Nat} {h : am_H} {Q : Option Value → am_H → Prop} {a0 : Nat}  (k : (am_L 10 a0 h) ∧ (∀ h2 : am_H, h2 = sI h a0 0 0 → (EvM w mX10_day d [.ref a0, .int ((-1))] h2 (fun r4 h3 => r4 = none ∧ ((am_L 10 a0 h3) ∧ (Q (some (.int (hI h3 a0 44))) h3)))))) : EvM w mX10_rings (d + 1) [.ref a0] h Q := by
  show Ev w (am_Z w) mX10_rings (d + 1) 0 [(0, .ref a0)] [] h Q
  refine Ev.aload_n 0 (am_dt kX10_rings 0 rfl) rfl rfl ?_
  refine Ev.iconst (v := 0) (am_dt kX10_rings 1 rfl) (by decide) ?_
  obtain ⟨f1, k⟩ := k
  refine Ev.putI' (ci := 10) (k := 0) (am_dt kX10_rings 2 rfl) (by decide) (by decide) wd_583 rfl rfl rfl rfl f1.1 (fun h2 eh2 => ?_)
  have k := k h2 eh2
  have f1 := am_LsI eh2 f1
  refine Ev.aload_n 0 (am_dt kX10_rings 3 rfl) rfl rfl ?_
  refine Ev.iconst (v := (-1)) (am_dt kX10_rings 4 rfl) (by decide) ?_
  refine Ev.callV (ci := 10) (v := mX10_day) (As := [.int ((-1))]) (st := []) okX10_day wd_742 wd_743 wd_744 (am_dt kX10_rings 5 rfl) (by decide) rfl rfl (Nat.le_of_ble_eq_true rfl) (Nat.le_of_ble_eq_true rfl) f1.1 ?_
  refine EvM.mono k (fun r4 h3 k => ?_)
  obtain ⟨rfl, k⟩ := k
  show Ev w _ _ _ 10 _ [] _ _
  refine Ev.aload_n 0 (am_dt kX10_rings 6 rfl) rfl rfl ?_
  obtain ⟨f5, k⟩ := k
  refine Ev.getI (ci := 10) (k := 44) (am_dt kX10_rings 7 rfl) (by decide) (by decide) rfl wd_704 f5.1 ?_
  exact Ev.iret .int (am_dt kX10_rings 8 rfl) rfl rfl k
set_option maxRecDepth 20000 in
set_option maxHeartbeats 2000000 in
theorem bX10_ring_0 {w : am_W} {d : Nat} {h : am_H} {Q : Option Value → am_H → Prop} {a0 : Nat} {x1 : Int32} {x2 : Int32}  (k : (am_L 10 a0 h) ∧ (∀ h2 : am_H, h2 = sI h a0 0 0 → (EvM w mX10_day d [.ref a0, .int ((-1))] h2 (fun r4 h3 => r4 = none ∧ ((x1 < 0 → (Q (some (.int ((-1)))) h3)) ∧ (¬ x1 < 0 → ((am_L 10 a0 h3) ∧ (((hI h3 a0 44) ≤ x1 → (Q (some (.int ((-1)))) h3)) ∧ (¬ (hI h3 a0 44) ≤ x1 → (EvM w mX10_within d [.int x2, .int 0, .int 2] h3 (fun r7 h6 => ∃ v8 : Int32, r7 = some (.int v8) ∧ ((v8 = 0 → (Q (some (.int ((-1)))) h6)) ∧ (¬ v8 = 0 → ((x2 = 0 → ((am_L 10 a0 h6) ∧ ((vp_in x1 (hN h6 (a0 + 32))) ∧ (Q (some (.int (hI h6 (a0 + 32) (Int32.toNatClampNeg x1)))) h6)))) ∧ (¬ x2 = 0 → ((x2 = 1 → ((am_L 10 a0 h6) ∧ ((vp_in x1 (hN h6 (a0 + 33))) ∧ (Q (some (.int (hI h6 (a0 + 33) (Int32.toNatClampNeg x1)))) h6)))) ∧ (¬ x2 = 1 → ((am_L 10 a0 h6) ∧ ((vp_in x1 (hN h6 (a0 + 34))) ∧ (Q (some (.int (hI h6 (a0 + 34) (Int32.toNatClampNeg x1)))) h6)))))))))))))))))))) : EvM w mX10_ring (d + 1) [.ref a0, .int x1, .int x2] h Q := by
  show Ev w (am_Z w) mX10_ring (d + 1) 0 [(0, .ref a0), (1, .int x1), (2, .int x2)] [] h Q
  refine Ev.aload_n 0 (am_dt kX10_ring 0 rfl) rfl rfl ?_
  refine Ev.iconst (v := 0) (am_dt kX10_ring 1 rfl) (by decide) ?_
  obtain ⟨f1, k⟩ := k
  refine Ev.putI' (ci := 10) (k := 0) (am_dt kX10_ring 2 rfl) (by decide) (by decide) wd_583 rfl rfl rfl rfl f1.1 (fun h2 eh2 => ?_)
  have k := k h2 eh2
  have f1 := am_LsI eh2 f1
  refine Ev.aload_n 0 (am_dt kX10_ring 3 rfl) rfl rfl ?_
  refine Ev.iconst (v := (-1)) (am_dt kX10_ring 4 rfl) (by decide) ?_
  refine Ev.callV (ci := 10) (v := mX10_day) (As := [.int ((-1))]) (st := []) okX10_day wd_742 wd_743 wd_744 (am_dt kX10_ring 5 rfl) (by decide) rfl rfl (Nat.le_of_ble_eq_true rfl) (Nat.le_of_ble_eq_true rfl) f1.1 ?_
  refine EvM.mono k (fun r4 h3 k => ?_)
  obtain ⟨rfl, k⟩ := k
  show Ev w _ _ _ 10 _ [] _ _
  refine Ev.iload_n 1 (am_dt kX10_ring 6 rfl) rfl rfl ?_
  refine Ev.if_lt (tgt := 31) (am_dt kX10_ring 7 rfl) (by decide) (fun c => ?_) (fun c => ?_)
  · have k := k.1 c
    refine Ev.iconst (v := (-1)) (am_dt kX10_ring 17 rfl) (by decide) ?_
    exact Ev.iret .int (am_dt kX10_ring 18 rfl) rfl rfl k
  · have k := k.2 c
    refine Ev.iload_n 1 (am_dt kX10_ring 8 rfl) rfl rfl ?_
    refine Ev.aload_n 0 (am_dt kX10_ring 9 rfl) rfl rfl ?_
    obtain ⟨f5, k⟩ := k
    refine Ev.getI (ci := 10) (k := 44) (am_dt kX10_ring 10 rfl) (by decide) (by decide) rfl wd_704 f5.1 ?_
    refine Ev.icmp_ge (tgt := 31) (am_dt kX10_ring 11 rfl) (by decide) (fun c => ?_) (fun c => ?_)
    · have k := k.1 c
      refine Ev.iconst (v := (-1)) (am_dt kX10_ring 17 rfl) (by decide) ?_
      exact Ev.iret .int (am_dt kX10_ring 18 rfl) rfl rfl k
    · have k := k.2 c
      refine Ev.iload_n 2 (am_dt kX10_ring 12 rfl) rfl rfl ?_
      refine Ev.iconst (v := 0) (am_dt kX10_ring 13 rfl) (by decide) ?_
      refine Ev.iconst (v := 2) (am_dt kX10_ring 14 rfl) (by decide) ?_
      refine Ev.callS (v := mX10_within) (As := [.int x2, .int 0, .int 2]) (st := []) okX10_within wd_653 wd_652 (am_dt kX10_ring 15 rfl) rfl rfl (Nat.le_of_ble_eq_true rfl) (Nat.le_of_ble_eq_true rfl) ?_
      refine EvM.mono k (fun r7 h6 k => ?_)
      obtain ⟨v8, rfl, k⟩ := k
      show Ev w _ _ _ 28 _ [.int v8] _ _
      refine Ev.if_ne (tgt := 33) (am_dt kX10_ring 16 rfl) (by decide) (fun c => ?_) (fun c => ?_)
      · have k := k.2 c
        refine Ev.iload_n 2 (am_dt kX10_ring 19 rfl) rfl rfl ?_
        refine Ev.if_ne (tgt := 46) (am_dt kX10_ring 20 rfl) (by decide) (fun c => ?_) (fun c => ?_)
        · have k := k.2 c
          refine Ev.iload_n 2 (am_dt kX10_ring 26 rfl) rfl rfl ?_
          refine Ev.iconst (v := 1) (am_dt kX10_ring 27 rfl) (by decide) ?_
          refine Ev.icmp_ne (tgt := 60) (am_dt kX10_ring 28 rfl) (by decide) (fun c => ?_) (fun c => ?_)
          · have k := k.2 c
            refine Ev.aload_n 0 (am_dt kX10_ring 34 rfl) rfl rfl ?_
            obtain ⟨f13, k⟩ := k
            refine Ev.getRe (ci := 10) (k := 47) (r := a0 + 34) (am_dt kX10_ring 35 rfl) (by decide) (by decide) rfl wd_575 f13.1 (am_L.r f13 33 rfl) (by omega) ?_
            refine Ev.iload_n 1 (am_dt kX10_ring 36 rfl) rfl rfl ?_
            obtain ⟨f14, k⟩ := k
            refine Ev.iald (am_dt kX10_ring 37 rfl) (am_L.s f13 33 rfl) f14 ?_
            exact Ev.iret .int (am_dt kX10_ring 38 rfl) rfl rfl k
          · have k := k.1 c
            refine Ev.aload_n 0 (am_dt kX10_ring 29 rfl) rfl rfl ?_
            obtain ⟨f11, k⟩ := k
            refine Ev.getRe (ci := 10) (k := 46) (r := a0 + 33) (am_dt kX10_ring 30 rfl) (by decide) (by decide) rfl wd_574 f11.1 (am_L.r f11 32 rfl) (by omega) ?_
            refine Ev.iload_n 1 (am_dt kX10_ring 31 rfl) rfl rfl ?_
            obtain ⟨f12, k⟩ := k
            refine Ev.iald (am_dt kX10_ring 32 rfl) (am_L.s f11 32 rfl) f12 ?_
            refine Ev.goto (tgt := 66) (am_dt kX10_ring 33 rfl) (by decide) ?_
            exact Ev.iret .int (am_dt kX10_ring 38 rfl) rfl rfl k
        · have k := k.1 c
          refine Ev.aload_n 0 (am_dt kX10_ring 21 rfl) rfl rfl ?_
          obtain ⟨f9, k⟩ := k
          refine Ev.getRe (ci := 10) (k := 45) (r := a0 + 32) (am_dt kX10_ring 22 rfl) (by decide) (by decide) rfl wd_573 f9.1 (am_L.r f9 31 rfl) (by omega) ?_
          refine Ev.iload_n 1 (am_dt kX10_ring 23 rfl) rfl rfl ?_
          obtain ⟨f10, k⟩ := k
          refine Ev.iald (am_dt kX10_ring 24 rfl) (am_L.s f9 31 rfl) f10 ?_
          refine Ev.goto (tgt := 66) (am_dt kX10_ring 25 rfl) (by decide) ?_
          exact Ev.iret .int (am_dt kX10_ring 38 rfl) rfl rfl k
      · have k := k.1 c
        refine Ev.iconst (v := (-1)) (am_dt kX10_ring 17 rfl) (by decide) ?_
        exact Ev.iret .int (am_dt kX10_ring 18 rfl) rfl rfl k
set_option maxRecDepth 20000 in
set_option maxHeartbeats 2000000 in
theorem bX10_waits_0 {w : am_W} {d : Nat} {h : am_H} {Q : Option Value → am_H → Prop} {a0 : Nat} {x1 : Int32} {x2 : Int32}  (k : (am_L 10 a0 h) ∧ (∀ h2 : am_H, h2 = sI h a0 0 0 → (EvM w mX10_isPerson d [.ref a0, .int x1] h2 (fun r4 h3 => ∃ v5 : Int32, r4 = some (.int v5) ∧ ((v5 = 0 → (Q (some (.int ((-1)))) h3)) ∧ (¬ v5 = 0 → (EvM w mX10_within d [.int x2, .int 0, .int 1] h3 (fun r7 h6 => ∃ v8 : Int32, r7 = some (.int v8) ∧ ((v8 = 0 → (Q (some (.int ((-1)))) h6)) ∧ (¬ v8 = 0 → ((am_L 10 a0 h6) ∧ (EvM w mX10_day d [.ref a0, .int ((-1))] h6 (fun r11 h10 => r11 = none ∧ ((x2 = 0 → ((am_L 10 a0 h10) ∧ (EvM w mX10_waitOf d [.ref a0, .int x1] h10 (fun r14 h13 => ∃ v15 : Int32, r14 = some (.int v15) ∧ (Q (some (.int v15)) h13))))) ∧ (¬ x2 = 0 → ((am_L 10 a0 h10) ∧ ((vp_in x1 (hN h10 (a0 + 31))) ∧ (Q (some (.int (hI h10 (a0 + 31) (Int32.toNatClampNeg x1)))) h10)))))))))))))))))) : EvM w mX10_waits (d + 1) [.ref a0, .int x1, .int x2] h Q := by
  show Ev w (am_Z w) mX10_waits (d + 1) 0 [(0, .ref a0), (1, .int x1), (2, .int x2)] [] h Q
  refine Ev.aload_n 0 (am_dt kX10_waits 0 rfl) rfl rfl ?_
  refine Ev.iconst (v := 0) (am_dt kX10_waits 1 rfl) (by decide) ?_
  obtain ⟨f1, k⟩ := k
  refine Ev.putI' (ci := 10) (k := 0) (am_dt kX10_waits 2 rfl) (by decide) (by decide) wd_583 rfl rfl rfl rfl f1.1 (fun h2 eh2 => ?_)
  have k := k h2 eh2
  have f1 := am_LsI eh2 f1
  refine Ev.aload_n 0 (am_dt kX10_waits 3 rfl) rfl rfl ?_
  refine Ev.iload_n 1 (am_dt kX10_waits 4 rfl) rfl rfl ?_
  refine Ev.callV (ci := 10) (v := mX10_isPerson) (As := [.int x1]) (st := []) okX10_isPerson wd_698 wd_699 wd_700 (am_dt kX10_waits 5 rfl) (by decide) rfl rfl (Nat.le_of_ble_eq_true rfl) (Nat.le_of_ble_eq_true rfl) f1.1 ?_
  refine EvM.mono k (fun r4 h3 k => ?_)
  obtain ⟨v5, rfl, k⟩ := k
  show Ev w _ _ _ 10 _ [.int v5] _ _
  refine Ev.if_eq (tgt := 22) (am_dt kX10_waits 6 rfl) (by decide) (fun c => ?_) (fun c => ?_)
  · have k := k.1 c
    refine Ev.iconst (v := (-1)) (am_dt kX10_waits 12 rfl) (by decide) ?_
    exact Ev.iret .int (am_dt kX10_waits 13 rfl) rfl rfl k
  · have k := k.2 c
    refine Ev.iload_n 2 (am_dt kX10_waits 7 rfl) rfl rfl ?_
    refine Ev.iconst (v := 0) (am_dt kX10_waits 8 rfl) (by decide) ?_
    refine Ev.iconst (v := 1) (am_dt kX10_waits 9 rfl) (by decide) ?_
    refine Ev.callS (v := mX10_within) (As := [.int x2, .int 0, .int 1]) (st := []) okX10_within wd_653 wd_652 (am_dt kX10_waits 10 rfl) rfl rfl (Nat.le_of_ble_eq_true rfl) (Nat.le_of_ble_eq_true rfl) ?_
    refine EvM.mono k (fun r7 h6 k => ?_)
    obtain ⟨v8, rfl, k⟩ := k
    show Ev w _ _ _ 19 _ [.int v8] _ _
    refine Ev.if_ne (tgt := 24) (am_dt kX10_waits 11 rfl) (by decide) (fun c => ?_) (fun c => ?_)
    · have k := k.2 c
      refine Ev.aload_n 0 (am_dt kX10_waits 14 rfl) rfl rfl ?_
      refine Ev.iconst (v := (-1)) (am_dt kX10_waits 15 rfl) (by decide) ?_
      obtain ⟨f9, k⟩ := k
      refine Ev.callV (ci := 10) (v := mX10_day) (As := [.int ((-1))]) (st := []) okX10_day wd_742 wd_743 wd_744 (am_dt kX10_waits 16 rfl) (by decide) rfl rfl (Nat.le_of_ble_eq_true rfl) (Nat.le_of_ble_eq_true rfl) f9.1 ?_
      refine EvM.mono k (fun r11 h10 k => ?_)
      obtain ⟨rfl, k⟩ := k
      show Ev w _ _ _ 29 _ [] _ _
      refine Ev.iload_n 2 (am_dt kX10_waits 17 rfl) rfl rfl ?_
      refine Ev.if_ne (tgt := 41) (am_dt kX10_waits 18 rfl) (by decide) (fun c => ?_) (fun c => ?_)
      · have k := k.2 c
        refine Ev.aload_n 0 (am_dt kX10_waits 23 rfl) rfl rfl ?_
        obtain ⟨f16, k⟩ := k
        refine Ev.getRe (ci := 10) (k := 43) (r := a0 + 31) (am_dt kX10_waits 24 rfl) (by decide) (by decide) rfl wd_572 f16.1 (am_L.r f16 30 rfl) (by omega) ?_
        refine Ev.iload_n 1 (am_dt kX10_waits 25 rfl) rfl rfl ?_
        obtain ⟨f17, k⟩ := k
        refine Ev.iald (am_dt kX10_waits 26 rfl) (am_L.s f16 30 rfl) f17 ?_
        exact Ev.iret .int (am_dt kX10_waits 27 rfl) rfl rfl k
      · have k := k.1 c
        refine Ev.aload_n 0 (am_dt kX10_waits 19 rfl) rfl rfl ?_
        refine Ev.iload_n 1 (am_dt kX10_waits 20 rfl) rfl rfl ?_
        obtain ⟨f12, k⟩ := k
        refine Ev.callV (ci := 10) (v := mX10_waitOf) (As := [.int x1]) (st := []) okX10_waitOf wd_739 wd_740 wd_741 (am_dt kX10_waits 21 rfl) (by decide) rfl rfl (Nat.le_of_ble_eq_true rfl) (Nat.le_of_ble_eq_true rfl) f12.1 ?_
        refine EvM.mono k (fun r14 h13 k => ?_)
        obtain ⟨v15, rfl, k⟩ := k
        show Ev w _ _ _ 38 _ [.int v15] _ _
        refine Ev.goto (tgt := 47) (am_dt kX10_waits 22 rfl) (by decide) ?_
        exact Ev.iret .int (am_dt kX10_waits 27 rfl) rfl rfl k
    · have k := k.1 c
      refine Ev.iconst (v := (-1)) (am_dt kX10_waits 12 rfl) (by decide) ?_
      exact Ev.iret .int (am_dt kX10_waits 13 rfl) rfl rfl k
set_option maxRecDepth 20000 in
set_option maxHeartbeats 2000000 in
theorem bX10_all_0 {w : am_W} {d : Nat} {h : am_H} {Q : Option Value → am_H → Prop} {a0 : Nat} {x1 : Int32}  (k : (am_L 10 a0 h) ∧ (∀ h2 : am_H, h2 = sI h a0 0 0 → (EvM w mX10_within d [.int x1, .int 0, .int 2] h2 (fun r4 h3 => ∃ v5 : Int32, r4 = some (.int v5) ∧ ((v5 = 0 → (Q (some (.int ((-1)))) h3)) ∧ (¬ v5 = 0 → ((am_L 10 a0 h3) ∧ (EvM w mX10_day d [.ref a0, .int ((-1))] h3 (fun r8 h7 => r8 = none ∧ ((x1 = 0 → ((am_L 10 a0 h7) ∧ (EvM w mX10_costAll d [.ref a0, .int ((-1))] h7 (fun r11 h10 => ∃ v12 : Int32, r11 = some (.int v12) ∧ (Q (some (.int v12)) h10))))) ∧ (¬ x1 = 0 → (Ev w (am_Z w) mX10_all (d + 1) 38 [(0, .ref a0), (1, .int x1), (2, .int 0), (3, .int 0), (4, .int 0)] [] h7 Q)))))))))))) : EvM w mX10_all (d + 1) [.ref a0, .int x1] h Q := by
  show Ev w (am_Z w) mX10_all (d + 1) 0 [(0, .ref a0), (1, .int x1)] [] h Q
  refine Ev.aload_n 0 (am_dt kX10_all 0 rfl) rfl rfl ?_
  refine Ev.iconst (v := 0) (am_dt kX10_all 1 rfl) (by decide) ?_
  obtain ⟨f1, k⟩ := k
  refine Ev.putI' (ci := 10) (k := 0) (am_dt kX10_all 2 rfl) (by decide) (by decide) wd_583 rfl rfl rfl rfl f1.1 (fun h2 eh2 => ?_)
  have k := k h2 eh2
  have f1 := am_LsI eh2 f1
  refine Ev.iload_n 1 (am_dt kX10_all 3 rfl) rfl rfl ?_
  refine Ev.iconst (v := 0) (am_dt kX10_all 4 rfl) (by decide) ?_
  refine Ev.iconst (v := 2) (am_dt kX10_all 5 rfl) (by decide) ?_
  refine Ev.callS (v := mX10_within) (As := [.int x1, .int 0, .int 2]) (st := []) okX10_within wd_653 wd_652 (am_dt kX10_all 6 rfl) rfl rfl (Nat.le_of_ble_eq_true rfl) (Nat.le_of_ble_eq_true rfl) ?_
  refine EvM.mono k (fun r4 h3 k => ?_)
  obtain ⟨v5, rfl, k⟩ := k
  show Ev w _ _ _ 11 _ [.int v5] _ _
  refine Ev.if_ne (tgt := 16) (am_dt kX10_all 7 rfl) (by decide) (fun c => ?_) (fun c => ?_)
  · have k := k.2 c
    refine Ev.aload_n 0 (am_dt kX10_all 10 rfl) rfl rfl ?_
    refine Ev.iconst (v := (-1)) (am_dt kX10_all 11 rfl) (by decide) ?_
    obtain ⟨f6, k⟩ := k
    refine Ev.callV (ci := 10) (v := mX10_day) (As := [.int ((-1))]) (st := []) okX10_day wd_742 wd_743 wd_744 (am_dt kX10_all 12 rfl) (by decide) rfl rfl (Nat.le_of_ble_eq_true rfl) (Nat.le_of_ble_eq_true rfl) f6.1 ?_
    refine EvM.mono k (fun r8 h7 k => ?_)
    obtain ⟨rfl, k⟩ := k
    show Ev w _ _ _ 21 _ [] _ _
    refine Ev.iload_n 1 (am_dt kX10_all 13 rfl) rfl rfl ?_
    refine Ev.if_ne (tgt := 31) (am_dt kX10_all 14 rfl) (by decide) (fun c => ?_) (fun c => ?_)
    · have k := k.2 c
      refine Ev.iconst (v := 0) (am_dt kX10_all 19 rfl) (by decide) ?_
      refine Ev.istore_n (lv' := [(2, .int 0), (0, .ref a0), (1, .int x1)]) (am_dt kX10_all 20 rfl) rfl (by decide) rfl ?_
      refine Ev.iconst (v := 0) (am_dt kX10_all 21 rfl) (by decide) ?_
      refine Ev.istore_n (lv' := [(3, .int 0), (2, .int 0), (0, .ref a0), (1, .int x1)]) (am_dt kX10_all 22 rfl) rfl (by decide) rfl ?_
      refine Ev.iconst (v := 0) (am_dt kX10_all 23 rfl) (by decide) ?_
      refine Ev.istore (lv' := [(4, .int 0), (3, .int 0), (2, .int 0), (0, .ref a0), (1, .int x1)]) (am_dt kX10_all 24 rfl) (by decide) rfl ?_
      exact Ev.sub [3, 4, 2, 1, 0] rfl k
    · have k := k.1 c
      refine Ev.aload_n 0 (am_dt kX10_all 15 rfl) rfl rfl ?_
      refine Ev.iconst (v := (-1)) (am_dt kX10_all 16 rfl) (by decide) ?_
      obtain ⟨f9, k⟩ := k
      refine Ev.callV (ci := 10) (v := mX10_costAll) (As := [.int ((-1))]) (st := []) okX10_costAll wd_745 wd_746 wd_747 (am_dt kX10_all 17 rfl) (by decide) rfl rfl (Nat.le_of_ble_eq_true rfl) (Nat.le_of_ble_eq_true rfl) f9.1 ?_
      refine EvM.mono k (fun r11 h10 k => ?_)
      obtain ⟨v12, rfl, k⟩ := k
      show Ev w _ _ _ 30 _ [.int v12] _ _
      exact Ev.iret .int (am_dt kX10_all 18 rfl) rfl rfl k
  · have k := k.1 c
    refine Ev.iconst (v := (-1)) (am_dt kX10_all 8 rfl) (by decide) ?_
    exact Ev.iret .int (am_dt kX10_all 9 rfl) rfl rfl k
set_option maxRecDepth 20000 in
set_option maxHeartbeats 2000000 in
theorem bX10_all_38 {w : am_W} {d : Nat} {h : am_H} {Q : Option Value → am_H → Prop} {a0 : Nat} {x1 : Int32} {x2 : Int32} {x3 : Int32} {x4 : Int32}  (k : (am_L 10 a0 h) ∧ (((hI h a0 36) ≤ x4 → ((x1 = 1 → (Q (some (.int x2)) h)) ∧ (¬ x1 = 1 → (Q (some (.int x3)) h)))) ∧ (¬ (hI h a0 36) ≤ x4 → (EvM w mX10_waitOf d [.ref a0, .int x4] h (fun r3 h2 => ∃ v4 : Int32, r3 = some (.int v4) ∧ ((am_L 10 a0 h2) ∧ ((vp_in x4 (hN h2 (a0 + 30))) ∧ ((0 ≤ (hI h2 (a0 + 30) (Int32.toNatClampNeg x4)) → (Ev w (am_Z w) mX10_all (d + 1) 38 [(0, .ref a0), (1, .int x1), (2, .int (if x2 < v4 then v4 else x2)), (3, .int (x3 ||| 0)), (4, .int (x4 + 1))] [] h2 Q)) ∧ (¬ 0 ≤ (hI h2 (a0 + 30) (Int32.toNatClampNeg x4)) → (Ev w (am_Z w) mX10_all (d + 1) 38 [(0, .ref a0), (1, .int x1), (2, .int (if x2 < v4 then v4 else x2)), (3, .int (x3 ||| ((1 : Int32) <<< (x4 &&& 31)))), (4, .int (x4 + 1))] [] h2 Q)))))))))) : Ev w (am_Z w) mX10_all (d + 1) 38 [(0, .ref a0), (1, .int x1), (2, .int x2), (3, .int x3), (4, .int x4)] [] h Q := by
  refine Ev.iload 4 (am_dt kX10_all 25 rfl) rfl ?_
  refine Ev.aload_n 0 (am_dt kX10_all 26 rfl) rfl rfl ?_
  obtain ⟨f1, k⟩ := k
  refine Ev.getI (ci := 10) (k := 36) (am_dt kX10_all 27 rfl) (by decide) (by decide) rfl wd_703 f1.1 ?_
  refine Ev.icmp_ge (tgt := 85) (am_dt kX10_all 28 rfl) (by decide) (fun c => ?_) (fun c => ?_)
  · have k := k.1 c
    refine Ev.iload_n 1 (am_dt kX10_all 50 rfl) rfl rfl ?_
    refine Ev.iconst (v := 1) (am_dt kX10_all 51 rfl) (by decide) ?_
    refine Ev.icmp_ne (tgt := 94) (am_dt kX10_all 52 rfl) (by decide) (fun c => ?_) (fun c => ?_)
    · have k := k.2 c
      refine Ev.iload_n 3 (am_dt kX10_all 55 rfl) rfl rfl ?_
      exact Ev.iret .int (am_dt kX10_all 56 rfl) rfl rfl k
    · have k := k.1 c
      refine Ev.iload_n 2 (am_dt kX10_all 53 rfl) rfl rfl ?_
      refine Ev.goto (tgt := 95) (am_dt kX10_all 54 rfl) (by decide) ?_
      exact Ev.iret .int (am_dt kX10_all 56 rfl) rfl rfl k
  · have k := k.2 c
    refine Ev.iload_n 2 (am_dt kX10_all 29 rfl) rfl rfl ?_
    refine Ev.aload_n 0 (am_dt kX10_all 30 rfl) rfl rfl ?_
    refine Ev.iload 4 (am_dt kX10_all 31 rfl) rfl ?_
    refine Ev.callV (ci := 10) (v := mX10_waitOf) (As := [.int x4]) (st := [.int x2]) okX10_waitOf wd_739 wd_740 wd_741 (am_dt kX10_all 32 rfl) (by decide) rfl rfl (Nat.le_of_ble_eq_true rfl) (Nat.le_of_ble_eq_true rfl) f1.1 ?_
    refine EvM.mono k (fun r3 h2 k => ?_)
    obtain ⟨v4, rfl, k⟩ := k
    show Ev w _ _ _ 54 _ [.int v4, .int x2] _ _
    refine Ev.mmax wd_665 wd_5 wd_6 wd_7 (am_dt kX10_all 33 rfl) (Nat.le_of_ble_eq_true rfl) ?_
    refine Ev.istore_n (lv' := [(2, .int (if x2 < v4 then v4 else x2)), (0, .ref a0), (1, .int x1), (3, .int x3), (4, .int x4)]) (am_dt kX10_all 34 rfl) rfl (by decide) rfl ?_
    refine Ev.iload_n 3 (am_dt kX10_all 35 rfl) rfl rfl ?_
    refine Ev.aload_n 1 (am_dt kX10_all 36 rfl) rfl rfl ?_
    obtain ⟨f5, k⟩ := k
    refine Ev.getRe (ci := 10) (k := 42) (r := a0 + 30) (am_dt kX10_all 37 rfl) (by decide) (by decide) rfl wd_571 f5.1 (am_L.r f5 29 rfl) (by omega) ?_
    refine Ev.iload 4 (am_dt kX10_all 38 rfl) rfl ?_
    obtain ⟨f6, k⟩ := k
    refine Ev.iald (am_dt kX10_all 39 rfl) (am_L.s f5 29 rfl) f6 ?_
    refine Ev.if_ge (tgt := 76) (am_dt kX10_all 40 rfl) (by decide) (fun c => ?_) (fun c => ?_)
    · have k := k.1 c
      refine Ev.iconst (v := 0) (am_dt kX10_all 45 rfl) (by decide) ?_
      refine Ev.ior (am_dt kX10_all 46 rfl) ?_
      refine Ev.istore_n (lv' := [(3, .int (x3 ||| 0)), (2, .int (if x2 < v4 then v4 else x2)), (0, .ref a0), (1, .int x1), (4, .int x4)]) (am_dt kX10_all 47 rfl) rfl (by decide) rfl ?_
      refine Ev.iinc (v := x4 + 1) (lv' := [(4, .int (x4 + 1)), (3, .int (x3 ||| 0)), (2, .int (if x2 < v4 then v4 else x2)), (0, .ref a0), (1, .int x1)]) 4 (am_dt kX10_all 48 rfl) rfl rfl (by decide) rfl ?_
      refine Ev.goto (tgt := 38) (am_dt kX10_all 49 rfl) (by decide) ?_
      exact Ev.sub [3, 4, 2, 1, 0] rfl k
    · have k := k.2 c
      refine Ev.iconst (v := 1) (am_dt kX10_all 41 rfl) (by decide) ?_
      refine Ev.iload 4 (am_dt kX10_all 42 rfl) rfl ?_
      refine Ev.ishl (am_dt kX10_all 43 rfl) ?_
      refine Ev.goto (tgt := 77) (am_dt kX10_all 44 rfl) (by decide) ?_
      refine Ev.ior (am_dt kX10_all 46 rfl) ?_
      refine Ev.istore_n (lv' := [(3, .int (x3 ||| ((1 : Int32) <<< (x4 &&& 31)))), (2, .int (if x2 < v4 then v4 else x2)), (0, .ref a0), (1, .int x1), (4, .int x4)]) (am_dt kX10_all 47 rfl) rfl (by decide) rfl ?_
      refine Ev.iinc (v := x4 + 1) (lv' := [(4, .int (x4 + 1)), (3, .int (x3 ||| ((1 : Int32) <<< (x4 &&& 31)))), (2, .int (if x2 < v4 then v4 else x2)), (0, .ref a0), (1, .int x1)]) 4 (am_dt kX10_all 48 rfl) rfl rfl (by decide) rfl ?_
      refine Ev.goto (tgt := 38) (am_dt kX10_all 49 rfl) (by decide) ?_
      exact Ev.sub [3, 4, 2, 1, 0] rfl k
set_option maxRecDepth 20000 in
set_option maxHeartbeats 2000000 in
theorem bX10_waitsBehind_0 {w : am_W} {d : Nat} {h : am_H} {Q : Option Value → am_H → Prop} {a0 : Nat} {x1 : Int32} {x2 : Int32}  (k : (am_L 10 a0 h) ∧ ((vp_in x1 (hN h (a0 + 26))) ∧ ((x2 < (hI h (a0 + 26) (Int32.toNatClampNeg x1)) → (Q (some (.int 0)) h)) ∧ (¬ x2 < (hI h (a0 + 26) (Int32.toNatClampNeg x1)) → ((vp_in x1 (hN h (a0 + 30))) ∧ (((hI h (a0 + 30) (Int32.toNatClampNeg x1)) < 0 → (Q (some (.int 1)) h)) ∧ (¬ (hI h (a0 + 30) (Int32.toNatClampNeg x1)) < 0 → ((vp_in x1 (hN h (a0 + 30))) ∧ (((hI h (a0 + 30) (Int32.toNatClampNeg x1)) ≤ x2 → (Q (some (.int 0)) h)) ∧ (¬ (hI h (a0 + 30) (Int32.toNatClampNeg x1)) ≤ x2 → (Q (some (.int 1)) h))))))))))) : EvM w mX10_waitsBehind d [.ref a0, .int x1, .int x2] h Q := by
  show Ev w (am_Z w) mX10_waitsBehind d 0 [(0, .ref a0), (1, .int x1), (2, .int x2)] [] h Q
  refine Ev.aload_n 0 (am_dt kX10_waitsBehind 0 rfl) rfl rfl ?_
  obtain ⟨f1, k⟩ := k
  refine Ev.getRe (ci := 10) (k := 38) (r := a0 + 26) (am_dt kX10_waitsBehind 1 rfl) (by decide) (by decide) rfl wd_567 f1.1 (am_L.r f1 25 rfl) (by omega) ?_
  refine Ev.iload_n 1 (am_dt kX10_waitsBehind 2 rfl) rfl rfl ?_
  obtain ⟨f2, k⟩ := k
  refine Ev.iald (am_dt kX10_waitsBehind 3 rfl) (am_L.s f1 25 rfl) f2 ?_
  refine Ev.iload_n 2 (am_dt kX10_waitsBehind 4 rfl) rfl rfl ?_
  refine Ev.icmp_gt (tgt := 33) (am_dt kX10_waitsBehind 5 rfl) (by decide) (fun c => ?_) (fun c => ?_)
  · have k := k.1 c
    refine Ev.iconst (v := 0) (am_dt kX10_waitsBehind 19 rfl) (by decide) ?_
    exact Ev.iret .boolean (am_dt kX10_waitsBehind 20 rfl) rfl rfl k
  · have k := k.2 c
    refine Ev.aload_n 0 (am_dt kX10_waitsBehind 6 rfl) rfl rfl ?_
    refine Ev.getRe (ci := 10) (k := 42) (r := a0 + 30) (am_dt kX10_waitsBehind 7 rfl) (by decide) (by decide) rfl wd_571 f1.1 (am_L.r f1 29 rfl) (by omega) ?_
    refine Ev.iload_n 1 (am_dt kX10_waitsBehind 8 rfl) rfl rfl ?_
    obtain ⟨f3, k⟩ := k
    refine Ev.iald (am_dt kX10_waitsBehind 9 rfl) (am_L.s f1 29 rfl) f3 ?_
    refine Ev.if_lt (tgt := 29) (am_dt kX10_waitsBehind 10 rfl) (by decide) (fun c => ?_) (fun c => ?_)
    · have k := k.1 c
      refine Ev.iconst (v := 1) (am_dt kX10_waitsBehind 17 rfl) (by decide) ?_
      refine Ev.goto (tgt := 34) (am_dt kX10_waitsBehind 18 rfl) (by decide) ?_
      exact Ev.iret .boolean (am_dt kX10_waitsBehind 20 rfl) rfl rfl k
    · have k := k.2 c
      refine Ev.aload_n 0 (am_dt kX10_waitsBehind 11 rfl) rfl rfl ?_
      refine Ev.getRe (ci := 10) (k := 42) (r := a0 + 30) (am_dt kX10_waitsBehind 12 rfl) (by decide) (by decide) rfl wd_571 f1.1 (am_L.r f1 29 rfl) (by omega) ?_
      refine Ev.iload_n 1 (am_dt kX10_waitsBehind 13 rfl) rfl rfl ?_
      obtain ⟨f4, k⟩ := k
      refine Ev.iald (am_dt kX10_waitsBehind 14 rfl) (am_L.s f1 29 rfl) f4 ?_
      refine Ev.iload_n 2 (am_dt kX10_waitsBehind 15 rfl) rfl rfl ?_
      refine Ev.icmp_le (tgt := 33) (am_dt kX10_waitsBehind 16 rfl) (by decide) (fun c => ?_) (fun c => ?_)
      · have k := k.1 c
        refine Ev.iconst (v := 0) (am_dt kX10_waitsBehind 19 rfl) (by decide) ?_
        exact Ev.iret .boolean (am_dt kX10_waitsBehind 20 rfl) rfl rfl k
      · have k := k.2 c
        refine Ev.iconst (v := 1) (am_dt kX10_waitsBehind 17 rfl) (by decide) ?_
        refine Ev.goto (tgt := 34) (am_dt kX10_waitsBehind 18 rfl) (by decide) ?_
        exact Ev.iret .boolean (am_dt kX10_waitsBehind 20 rfl) rfl rfl k
set_option maxRecDepth 20000 in
set_option maxHeartbeats 2000000 in
theorem bX10_bank_0 {w : am_W} {d : Nat} {h : am_H} {Q : Option Value → am_H → Prop} {a0 : Nat} {x1 : Int32} {x2 : Int32} {x3 : Int32}  (k : (am_L 10 a0 h) ∧ (∀ h2 : am_H, h2 = sI h a0 0 0 → (EvM w mX10_within d [.int x1, .int 0, .int 1] h2 (fun r4 h3 => ∃ v5 : Int32, r4 = some (.int v5) ∧ ((v5 = 0 → (Q (some (.int ((-1)))) h3)) ∧ (¬ v5 = 0 → (EvM w mX10_isMinute d [.int x2] h3 (fun r7 h6 => ∃ v8 : Int32, r7 = some (.int v8) ∧ ((v8 = 0 → (Q (some (.int ((-1)))) h6)) ∧ (¬ v8 = 0 → (EvM w mX10_within d [.int x3, .int 0, .int 2] h6 (fun r10 h9 => ∃ v11 : Int32, r10 = some (.int v11) ∧ ((v11 = 0 → (Q (some (.int ((-1)))) h9)) ∧ (¬ v11 = 0 → ((am_L 10 a0 h9) ∧ (EvM w mX10_day d [.ref a0, .int ((-1))] h9 (fun r14 h13 => r14 = none ∧ (Ev w (am_Z w) mX10_bank (d + 1) 43 [(0, .ref a0), (1, .int x1), (2, .int x2), (3, .int x3), (4, .int 0), (5, .int 0)] [] h13 Q)))))))))))))))))) : EvM w mX10_bank (d + 1) [.ref a0, .int x1, .int x2, .int x3] h Q := by
  show Ev w (am_Z w) mX10_bank (d + 1) 0 [(0, .ref a0), (1, .int x1), (2, .int x2), (3, .int x3)] [] h Q
  refine Ev.aload_n 0 (am_dt kX10_bank 0 rfl) rfl rfl ?_
  refine Ev.iconst (v := 0) (am_dt kX10_bank 1 rfl) (by decide) ?_
  obtain ⟨f1, k⟩ := k
  refine Ev.putI' (ci := 10) (k := 0) (am_dt kX10_bank 2 rfl) (by decide) (by decide) wd_583 rfl rfl rfl rfl f1.1 (fun h2 eh2 => ?_)
  have k := k h2 eh2
  have f1 := am_LsI eh2 f1
  refine Ev.iload_n 1 (am_dt kX10_bank 3 rfl) rfl rfl ?_
  refine Ev.iconst (v := 0) (am_dt kX10_bank 4 rfl) (by decide) ?_
  refine Ev.iconst (v := 1) (am_dt kX10_bank 5 rfl) (by decide) ?_
  refine Ev.callS (v := mX10_within) (As := [.int x1, .int 0, .int 1]) (st := []) okX10_within wd_653 wd_652 (am_dt kX10_bank 6 rfl) rfl rfl (Nat.le_of_ble_eq_true rfl) (Nat.le_of_ble_eq_true rfl) ?_
  refine EvM.mono k (fun r4 h3 k => ?_)
  obtain ⟨v5, rfl, k⟩ := k
  show Ev w _ _ _ 11 _ [.int v5] _ _
  refine Ev.if_eq (tgt := 30) (am_dt kX10_bank 7 rfl) (by decide) (fun c => ?_) (fun c => ?_)
  · have k := k.1 c
    refine Ev.iconst (v := (-1)) (am_dt kX10_bank 16 rfl) (by decide) ?_
    exact Ev.iret .int (am_dt kX10_bank 17 rfl) rfl rfl k
  · have k := k.2 c
    refine Ev.iload_n 2 (am_dt kX10_bank 8 rfl) rfl rfl ?_
    refine Ev.callS (v := mX10_isMinute) (As := [.int x2]) (st := []) okX10_isMinute wd_749 wd_748 (am_dt kX10_bank 9 rfl) rfl rfl (Nat.le_of_ble_eq_true rfl) (Nat.le_of_ble_eq_true rfl) ?_
    refine EvM.mono k (fun r7 h6 k => ?_)
    obtain ⟨v8, rfl, k⟩ := k
    show Ev w _ _ _ 18 _ [.int v8] _ _
    refine Ev.if_eq (tgt := 30) (am_dt kX10_bank 10 rfl) (by decide) (fun c => ?_) (fun c => ?_)
    · have k := k.1 c
      refine Ev.iconst (v := (-1)) (am_dt kX10_bank 16 rfl) (by decide) ?_
      exact Ev.iret .int (am_dt kX10_bank 17 rfl) rfl rfl k
    · have k := k.2 c
      refine Ev.iload_n 3 (am_dt kX10_bank 11 rfl) rfl rfl ?_
      refine Ev.iconst (v := 0) (am_dt kX10_bank 12 rfl) (by decide) ?_
      refine Ev.iconst (v := 2) (am_dt kX10_bank 13 rfl) (by decide) ?_
      refine Ev.callS (v := mX10_within) (As := [.int x3, .int 0, .int 2]) (st := []) okX10_within wd_653 wd_652 (am_dt kX10_bank 14 rfl) rfl rfl (Nat.le_of_ble_eq_true rfl) (Nat.le_of_ble_eq_true rfl) ?_
      refine EvM.mono k (fun r10 h9 k => ?_)
      obtain ⟨v11, rfl, k⟩ := k
      show Ev w _ _ _ 27 _ [.int v11] _ _
      refine Ev.if_ne (tgt := 32) (am_dt kX10_bank 15 rfl) (by decide) (fun c => ?_) (fun c => ?_)
      · have k := k.2 c
        refine Ev.aload_n 0 (am_dt kX10_bank 18 rfl) rfl rfl ?_
        refine Ev.iconst (v := (-1)) (am_dt kX10_bank 19 rfl) (by decide) ?_
        obtain ⟨f12, k⟩ := k
        refine Ev.callV (ci := 10) (v := mX10_day) (As := [.int ((-1))]) (st := []) okX10_day wd_742 wd_743 wd_744 (am_dt kX10_bank 20 rfl) (by decide) rfl rfl (Nat.le_of_ble_eq_true rfl) (Nat.le_of_ble_eq_true rfl) f12.1 ?_
        refine EvM.mono k (fun r14 h13 k => ?_)
        obtain ⟨rfl, k⟩ := k
        show Ev w _ _ _ 37 _ [] _ _
        refine Ev.iconst (v := 0) (am_dt kX10_bank 21 rfl) (by decide) ?_
        refine Ev.istore (lv' := [(4, .int 0), (0, .ref a0), (1, .int x1), (2, .int x2), (3, .int x3)]) (am_dt kX10_bank 22 rfl) (by decide) rfl ?_
        refine Ev.iconst (v := 0) (am_dt kX10_bank 23 rfl) (by decide) ?_
        refine Ev.istore (lv' := [(5, .int 0), (4, .int 0), (0, .ref a0), (1, .int x1), (2, .int x2), (3, .int x3)]) (am_dt kX10_bank 24 rfl) (by decide) rfl ?_
        exact Ev.sub [2, 3, 4, 5, 1, 0] rfl k
      · have k := k.1 c
        refine Ev.iconst (v := (-1)) (am_dt kX10_bank 16 rfl) (by decide) ?_
        exact Ev.iret .int (am_dt kX10_bank 17 rfl) rfl rfl k
set_option maxRecDepth 20000 in
set_option maxHeartbeats 2000000 in
theorem bX10_bank_43 {w : am_W} {d : Nat} {h : am_H} {Q : Option Value → am_H → Prop} {a0 : Nat} {x1 : Int32} {x2 : Int32} {x3 : Int32} {x4 : Int32} {x5 : Int32}  (k : (am_L 10 a0 h) ∧ (((hI h a0 36) ≤ x5 → (Q (some (.int x4)) h)) ∧ (¬ (hI h a0 36) ≤ x5 → ((vp_in x5 (hN h (a0 + 25))) ∧ (((hI h (a0 + 25) (Int32.toNatClampNeg x5)) = x1 → (EvM w mX10_waitsBehind d [.ref a0, .int x5, .int x2] h (fun r4 h3 => ∃ v5 : Int32, r4 = some (.int v5) ∧ ((v5 = 0 → (Ev w (am_Z w) mX10_bank (d + 1) 43 [(0, .ref a0), (1, .int x1), (2, .int x2), (3, .int x3), (4, .int x4), (5, .int (x5 + 1))] [] h3 Q)) ∧ (¬ v5 = 0 → ((x3 = 0 → (Ev w (am_Z w) mX10_bank (d + 1) 43 [(0, .ref a0), (1, .int x1), (2, .int x2), (3, .int x3), (4, .int (x4 + 1)), (5, .int (x5 + 1))] [] h3 Q)) ∧ (¬ x3 = 0 → ((x3 = 1 → ((am_L 10 a0 h3) ∧ ((vp_in x5 (hN h3 (a0 + 29))) ∧ (Ev w (am_Z w) mX10_bank (d + 1) 43 [(0, .ref a0), (1, .int x1), (2, .int x2), (3, .int x3), (4, .int (x4 + (hI h3 (a0 + 29) (Int32.toNatClampNeg x5)))), (5, .int (x5 + 1))] [] h3 Q)))) ∧ (¬ x3 = 1 → ((am_L 10 a0 h3) ∧ ((vp_in x5 (hN h3 (a0 + 27))) ∧ (Ev w (am_Z w) mX10_bank (d + 1) 43 [(0, .ref a0), (1, .int x1), (2, .int x2), (3, .int x3), (4, .int (x4 + (hI h3 (a0 + 27) (Int32.toNatClampNeg x5)))), (5, .int (x5 + 1))] [] h3 Q)))))))))))) ∧ (¬ (hI h (a0 + 25) (Int32.toNatClampNeg x5)) = x1 → (Ev w (am_Z w) mX10_bank (d + 1) 43 [(0, .ref a0), (1, .int x1), (2, .int x2), (3, .int x3), (4, .int x4), (5, .int (x5 + 1))] [] h Q))))))) : Ev w (am_Z w) mX10_bank (d + 1) 43 [(0, .ref a0), (1, .int x1), (2, .int x2), (3, .int x3), (4, .int x4), (5, .int x5)] [] h Q := by
  refine Ev.iload 5 (am_dt kX10_bank 25 rfl) rfl ?_
  refine Ev.aload_n 0 (am_dt kX10_bank 26 rfl) rfl rfl ?_
  obtain ⟨f1, k⟩ := k
  refine Ev.getI (ci := 10) (k := 36) (am_dt kX10_bank 27 rfl) (by decide) (by decide) rfl wd_703 f1.1 ?_
  refine Ev.icmp_ge (tgt := 117) (am_dt kX10_bank 28 rfl) (by decide) (fun c => ?_) (fun c => ?_)
  · have k := k.1 c
    refine Ev.iload 4 (am_dt kX10_bank 62 rfl) rfl ?_
    exact Ev.iret .int (am_dt kX10_bank 63 rfl) rfl rfl k
  · have k := k.2 c
    refine Ev.aload_n 0 (am_dt kX10_bank 29 rfl) rfl rfl ?_
    refine Ev.getRe (ci := 10) (k := 37) (r := a0 + 25) (am_dt kX10_bank 30 rfl) (by decide) (by decide) rfl wd_566 f1.1 (am_L.r f1 24 rfl) (by omega) ?_
    refine Ev.iload 5 (am_dt kX10_bank 31 rfl) rfl ?_
    obtain ⟨f2, k⟩ := k
    refine Ev.iald (am_dt kX10_bank 32 rfl) (am_L.s f1 24 rfl) f2 ?_
    refine Ev.iload_n 1 (am_dt kX10_bank 33 rfl) rfl rfl ?_
    refine Ev.icmp_ne (tgt := 111) (am_dt kX10_bank 34 rfl) (by decide) (fun c => ?_) (fun c => ?_)
    · have k := k.2 c
      refine Ev.iinc (v := x5 + 1) (lv' := [(5, .int (x5 + 1)), (0, .ref a0), (1, .int x1), (2, .int x2), (3, .int x3), (4, .int x4)]) 5 (am_dt kX10_bank 60 rfl) rfl rfl (by decide) rfl ?_
      refine Ev.goto (tgt := 43) (am_dt kX10_bank 61 rfl) (by decide) ?_
      exact Ev.sub [1, 2, 3, 4, 5, 0] rfl k
    · have k := k.1 c
      refine Ev.aload_n 0 (am_dt kX10_bank 35 rfl) rfl rfl ?_
      refine Ev.iload 5 (am_dt kX10_bank 36 rfl) rfl ?_
      refine Ev.iload_n 2 (am_dt kX10_bank 37 rfl) rfl rfl ?_
      refine Ev.callV (ci := 10) (v := mX10_waitsBehind) (As := [.int x5, .int x2]) (st := []) okX10_waitsBehind wd_750 wd_751 wd_752 (am_dt kX10_bank 38 rfl) (by decide) rfl rfl (Nat.le_of_ble_eq_true rfl) (Nat.le_of_ble_eq_true rfl) f1.1 ?_
      refine EvM.mono k (fun r4 h3 k => ?_)
      obtain ⟨v5, rfl, k⟩ := k
      show Ev w _ _ _ 70 _ [.int v5] _ _
      refine Ev.if_ne (tgt := 76) (am_dt kX10_bank 39 rfl) (by decide) (fun c => ?_) (fun c => ?_)
      · have k := k.2 c
        refine Ev.iload 4 (am_dt kX10_bank 41 rfl) rfl ?_
        refine Ev.iload_n 3 (am_dt kX10_bank 42 rfl) rfl rfl ?_
        refine Ev.if_ne (tgt := 86) (am_dt kX10_bank 43 rfl) (by decide) (fun c => ?_) (fun c => ?_)
        · have k := k.2 c
          refine Ev.iload_n 3 (am_dt kX10_bank 46 rfl) rfl rfl ?_
          refine Ev.iconst (v := 1) (am_dt kX10_bank 47 rfl) (by decide) ?_
          refine Ev.icmp_ne (tgt := 101) (am_dt kX10_bank 48 rfl) (by decide) (fun c => ?_) (fun c => ?_)
          · have k := k.2 c
            refine Ev.aload_n 0 (am_dt kX10_bank 54 rfl) rfl rfl ?_
            obtain ⟨f8, k⟩ := k
            refine Ev.getRe (ci := 10) (k := 39) (r := a0 + 27) (am_dt kX10_bank 55 rfl) (by decide) (by decide) rfl wd_568 f8.1 (am_L.r f8 26 rfl) (by omega) ?_
            refine Ev.iload 5 (am_dt kX10_bank 56 rfl) rfl ?_
            obtain ⟨f9, k⟩ := k
            refine Ev.iald (am_dt kX10_bank 57 rfl) (am_L.s f8 26 rfl) f9 ?_
            refine Ev.iadd (am_dt kX10_bank 58 rfl) ?_
            refine Ev.istore (lv' := [(4, .int (x4 + (hI h3 (a0 + 27) (Int32.toNatClampNeg x5)))), (0, .ref a0), (1, .int x1), (2, .int x2), (3, .int x3), (5, .int x5)]) (am_dt kX10_bank 59 rfl) (by decide) rfl ?_
            refine Ev.iinc (v := x5 + 1) (lv' := [(5, .int (x5 + 1)), (4, .int (x4 + (hI h3 (a0 + 27) (Int32.toNatClampNeg x5)))), (0, .ref a0), (1, .int x1), (2, .int x2), (3, .int x3)]) 5 (am_dt kX10_bank 60 rfl) rfl rfl (by decide) rfl ?_
            refine Ev.goto (tgt := 43) (am_dt kX10_bank 61 rfl) (by decide) ?_
            exact Ev.sub [2, 3, 4, 5, 1, 0] rfl k
          · have k := k.1 c
            refine Ev.aload_n 0 (am_dt kX10_bank 49 rfl) rfl rfl ?_
            obtain ⟨f6, k⟩ := k
            refine Ev.getRe (ci := 10) (k := 41) (r := a0 + 29) (am_dt kX10_bank 50 rfl) (by decide) (by decide) rfl wd_570 f6.1 (am_L.r f6 28 rfl) (by omega) ?_
            refine Ev.iload 5 (am_dt kX10_bank 51 rfl) rfl ?_
            obtain ⟨f7, k⟩ := k
            refine Ev.iald (am_dt kX10_bank 52 rfl) (am_L.s f6 28 rfl) f7 ?_
            refine Ev.goto (tgt := 108) (am_dt kX10_bank 53 rfl) (by decide) ?_
            refine Ev.iadd (am_dt kX10_bank 58 rfl) ?_
            refine Ev.istore (lv' := [(4, .int (x4 + (hI h3 (a0 + 29) (Int32.toNatClampNeg x5)))), (0, .ref a0), (1, .int x1), (2, .int x2), (3, .int x3), (5, .int x5)]) (am_dt kX10_bank 59 rfl) (by decide) rfl ?_
            refine Ev.iinc (v := x5 + 1) (lv' := [(5, .int (x5 + 1)), (4, .int (x4 + (hI h3 (a0 + 29) (Int32.toNatClampNeg x5)))), (0, .ref a0), (1, .int x1), (2, .int x2), (3, .int x3)]) 5 (am_dt kX10_bank 60 rfl) rfl rfl (by decide) rfl ?_
            refine Ev.goto (tgt := 43) (am_dt kX10_bank 61 rfl) (by decide) ?_
            exact Ev.sub [2, 3, 4, 5, 1, 0] rfl k
        · have k := k.1 c
          refine Ev.iconst (v := 1) (am_dt kX10_bank 44 rfl) (by decide) ?_
          refine Ev.goto (tgt := 108) (am_dt kX10_bank 45 rfl) (by decide) ?_
          refine Ev.iadd (am_dt kX10_bank 58 rfl) ?_
          refine Ev.istore (lv' := [(4, .int (x4 + 1)), (0, .ref a0), (1, .int x1), (2, .int x2), (3, .int x3), (5, .int x5)]) (am_dt kX10_bank 59 rfl) (by decide) rfl ?_
          refine Ev.iinc (v := x5 + 1) (lv' := [(5, .int (x5 + 1)), (4, .int (x4 + 1)), (0, .ref a0), (1, .int x1), (2, .int x2), (3, .int x3)]) 5 (am_dt kX10_bank 60 rfl) rfl rfl (by decide) rfl ?_
          refine Ev.goto (tgt := 43) (am_dt kX10_bank 61 rfl) (by decide) ?_
          exact Ev.sub [2, 3, 4, 5, 1, 0] rfl k
      · have k := k.1 c
        refine Ev.goto (tgt := 111) (am_dt kX10_bank 40 rfl) (by decide) ?_
        refine Ev.iinc (v := x5 + 1) (lv' := [(5, .int (x5 + 1)), (0, .ref a0), (1, .int x1), (2, .int x2), (3, .int x3), (4, .int x4)]) 5 (am_dt kX10_bank 60 rfl) rfl rfl (by decide) rfl ?_
        refine Ev.goto (tgt := 43) (am_dt kX10_bank 61 rfl) (by decide) ?_
        exact Ev.sub [1, 2, 3, 4, 5, 0] rfl k
set_option maxRecDepth 20000 in
set_option maxHeartbeats 2000000 in
theorem bX10_ringsBy_0 {w : am_W} {d : Nat} {h : am_H} {Q : Option Value → am_H → Prop} {a0 : Nat} {x1 : Int32} {x2 : Int32} {x3 : Int32}  (k : (am_L 10 a0 h) ∧ (EvM w mX10_tellsAll d [.ref a0, .int ((-1))] h (fun r3 h2 => r3 = none ∧ ((am_L 10 a0 h2) ∧ (EvM w mX10_goesOn d [.ref a0, .int 0, .int (x1 - 1)] h2 (fun r6 h5 => r6 = none ∧ ((am_L 10 a0 h5) ∧ (Ev w (am_Z w) mX10_ringsBy (d + 1) 22 [(0, .ref a0), (1, .int x1), (2, .int x2), (3, .int x3), (4, .int (hI h5 a0 44)), (5, .int 0)] [] h5 Q)))))))) : EvM w mX10_ringsBy (d + 1) [.ref a0, .int x1, .int x2, .int x3] h Q := by
  show Ev w (am_Z w) mX10_ringsBy (d + 1) 0 [(0, .ref a0), (1, .int x1), (2, .int x2), (3, .int x3)] [] h Q
  refine Ev.aload_n 0 (am_dt kX10_ringsBy 0 rfl) rfl rfl ?_
  refine Ev.iconst (v := (-1)) (am_dt kX10_ringsBy 1 rfl) (by decide) ?_
  obtain ⟨f1, k⟩ := k
  refine Ev.callV (ci := 10) (v := mX10_tellsAll) (As := [.int ((-1))]) (st := []) okX10_tellsAll wd_733 wd_734 wd_735 (am_dt kX10_ringsBy 2 rfl) (by decide) rfl rfl (Nat.le_of_ble_eq_true rfl) (Nat.le_of_ble_eq_true rfl) f1.1 ?_
  refine EvM.mono k (fun r3 h2 k => ?_)
  obtain ⟨rfl, k⟩ := k
  show Ev w _ _ _ 5 _ [] _ _
  refine Ev.aload_n 0 (am_dt kX10_ringsBy 3 rfl) rfl rfl ?_
  refine Ev.iconst (v := 0) (am_dt kX10_ringsBy 4 rfl) (by decide) ?_
  refine Ev.iload_n 1 (am_dt kX10_ringsBy 5 rfl) rfl rfl ?_
  refine Ev.iconst (v := 1) (am_dt kX10_ringsBy 6 rfl) (by decide) ?_
  refine Ev.isub (am_dt kX10_ringsBy 7 rfl) ?_
  obtain ⟨f4, k⟩ := k
  refine Ev.callV (ci := 10) (v := mX10_goesOn) (As := [.int 0, .int (x1 - 1)]) (st := []) okX10_goesOn wd_736 wd_737 wd_738 (am_dt kX10_ringsBy 8 rfl) (by decide) rfl rfl (Nat.le_of_ble_eq_true rfl) (Nat.le_of_ble_eq_true rfl) f4.1 ?_
  refine EvM.mono k (fun r6 h5 k => ?_)
  obtain ⟨rfl, k⟩ := k
  show Ev w _ _ _ 13 _ [] _ _
  refine Ev.aload_n 0 (am_dt kX10_ringsBy 9 rfl) rfl rfl ?_
  obtain ⟨f7, k⟩ := k
  refine Ev.getI (ci := 10) (k := 44) (am_dt kX10_ringsBy 10 rfl) (by decide) (by decide) rfl wd_704 f7.1 ?_
  refine Ev.istore (lv' := [(4, .int (hI h5 a0 44)), (0, .ref a0), (1, .int x1), (2, .int x2), (3, .int x3)]) (am_dt kX10_ringsBy 11 rfl) (by decide) rfl ?_
  refine Ev.iconst (v := 0) (am_dt kX10_ringsBy 12 rfl) (by decide) ?_
  refine Ev.istore (lv' := [(5, .int 0), (4, .int (hI h5 a0 44)), (0, .ref a0), (1, .int x1), (2, .int x2), (3, .int x3)]) (am_dt kX10_ringsBy 13 rfl) (by decide) rfl ?_
  exact Ev.sub [2, 3, 4, 5, 1, 0] rfl k
set_option maxRecDepth 20000 in
set_option maxHeartbeats 2000000 in
theorem bX10_ringsBy_22 {w : am_W} {d : Nat} {h : am_H} {Q : Option Value → am_H → Prop} {a0 : Nat} {x1 : Int32} {x2 : Int32} {x3 : Int32} {x4 : Int32} {x5 : Int32}  (k : (x3 ≤ x5 → ((am_L 10 a0 h) ∧ (EvM w mX10_goesOn d [.ref a0, .int x1, .int x1] h (fun r3 h2 => r3 = none ∧ ((am_L 10 a0 h2) ∧ (((hI h2 a0 44) ≤ x4 → (Q (some (.int 0)) h2)) ∧ (¬ (hI h2 a0 44) ≤ x4 → (Q (some (.int 1)) h2)))))))) ∧ (¬ x3 ≤ x5 → ((am_L 10 a0 h) ∧ (EvM w mX10_joins d [.ref a0, .int x2, .int x1, .int 70, .int 0, .int 2] h (fun r7 h6 => r7 = none ∧ (Ev w (am_Z w) mX10_ringsBy (d + 1) 22 [(0, .ref a0), (1, .int x1), (2, .int x2), (3, .int x3), (4, .int x4), (5, .int (x5 + 1))] [] h6 Q)))))) : Ev w (am_Z w) mX10_ringsBy (d + 1) 22 [(0, .ref a0), (1, .int x1), (2, .int x2), (3, .int x3), (4, .int x4), (5, .int x5)] [] h Q := by
  refine Ev.iload 5 (am_dt kX10_ringsBy 14 rfl) rfl ?_
  refine Ev.iload_n 3 (am_dt kX10_ringsBy 15 rfl) rfl rfl ?_
  refine Ev.icmp_ge (tgt := 44) (am_dt kX10_ringsBy 16 rfl) (by decide) (fun c => ?_) (fun c => ?_)
  · have k := k.1 c
    refine Ev.aload_n 0 (am_dt kX10_ringsBy 26 rfl) rfl rfl ?_
    refine Ev.iload_n 1 (am_dt kX10_ringsBy 27 rfl) rfl rfl ?_
    refine Ev.iload_n 1 (am_dt kX10_ringsBy 28 rfl) rfl rfl ?_
    obtain ⟨f1, k⟩ := k
    refine Ev.callV (ci := 10) (v := mX10_goesOn) (As := [.int x1, .int x1]) (st := []) okX10_goesOn wd_736 wd_737 wd_738 (am_dt kX10_ringsBy 29 rfl) (by decide) rfl rfl (Nat.le_of_ble_eq_true rfl) (Nat.le_of_ble_eq_true rfl) f1.1 ?_
    refine EvM.mono k (fun r3 h2 k => ?_)
    obtain ⟨rfl, k⟩ := k
    show Ev w _ _ _ 50 _ [] _ _
    refine Ev.aload_n 0 (am_dt kX10_ringsBy 30 rfl) rfl rfl ?_
    obtain ⟨f4, k⟩ := k
    refine Ev.getI (ci := 10) (k := 44) (am_dt kX10_ringsBy 31 rfl) (by decide) (by decide) rfl wd_704 f4.1 ?_
    refine Ev.iload 4 (am_dt kX10_ringsBy 32 rfl) rfl ?_
    refine Ev.icmp_le (tgt := 63) (am_dt kX10_ringsBy 33 rfl) (by decide) (fun c => ?_) (fun c => ?_)
    · have k := k.1 c
      refine Ev.iconst (v := 0) (am_dt kX10_ringsBy 36 rfl) (by decide) ?_
      exact Ev.iret .boolean (am_dt kX10_ringsBy 37 rfl) rfl rfl k
    · have k := k.2 c
      refine Ev.iconst (v := 1) (am_dt kX10_ringsBy 34 rfl) (by decide) ?_
      refine Ev.goto (tgt := 64) (am_dt kX10_ringsBy 35 rfl) (by decide) ?_
      exact Ev.iret .boolean (am_dt kX10_ringsBy 37 rfl) rfl rfl k
  · have k := k.2 c
    refine Ev.aload_n 0 (am_dt kX10_ringsBy 17 rfl) rfl rfl ?_
    refine Ev.iload_n 2 (am_dt kX10_ringsBy 18 rfl) rfl rfl ?_
    refine Ev.iload_n 1 (am_dt kX10_ringsBy 19 rfl) rfl rfl ?_
    refine Ev.bipush (v := 70) (am_dt kX10_ringsBy 20 rfl) (by decide) ?_
    refine Ev.iconst (v := 0) (am_dt kX10_ringsBy 21 rfl) (by decide) ?_
    refine Ev.iconst (v := 2) (am_dt kX10_ringsBy 22 rfl) (by decide) ?_
    obtain ⟨f5, k⟩ := k
    refine Ev.callV (ci := 10) (v := mX10_joins) (As := [.int x2, .int x1, .int 70, .int 0, .int 2]) (st := []) okX10_joins wd_712 wd_713 wd_714 (am_dt kX10_ringsBy 23 rfl) (by decide) rfl rfl (Nat.le_of_ble_eq_true rfl) (Nat.le_of_ble_eq_true rfl) f5.1 ?_
    refine EvM.mono k (fun r7 h6 k => ?_)
    obtain ⟨rfl, k⟩ := k
    show Ev w _ _ _ 38 _ [] _ _
    refine Ev.iinc (v := x5 + 1) (lv' := [(5, .int (x5 + 1)), (0, .ref a0), (1, .int x1), (2, .int x2), (3, .int x3), (4, .int x4)]) 5 (am_dt kX10_ringsBy 24 rfl) rfl rfl (by decide) rfl ?_
    refine Ev.goto (tgt := 22) (am_dt kX10_ringsBy 25 rfl) (by decide) ?_
    exact Ev.sub [1, 2, 3, 4, 5, 0] rfl k
set_option maxRecDepth 20000 in
set_option maxHeartbeats 2000000 in
theorem bX10_send_0 {w : am_W} {d : Nat} {h : am_H} {Q : Option Value → am_H → Prop} {a0 : Nat} {x1 : Int32} {x2 : Int32}  (k : (am_L 10 a0 h) ∧ (∀ h2 : am_H, h2 = sI h a0 0 0 → (EvM w mX10_isMinute d [.int x1] h2 (fun r4 h3 => ∃ v5 : Int32, r4 = some (.int v5) ∧ ((v5 = 0 → (Q (some (.int ((-1)))) h3)) ∧ (¬ v5 = 0 → (EvM w mX10_within d [.int x2, .int 0, .int 1] h3 (fun r7 h6 => ∃ v8 : Int32, r7 = some (.int v8) ∧ ((v8 = 0 → (Q (some (.int ((-1)))) h6)) ∧ (¬ v8 = 0 → (Ev w (am_Z w) mX10_send (d + 1) 25 [(0, .ref a0), (1, .int x1), (2, .int x2), (3, .int 0)] [] h6 Q))))))))))) : EvM w mX10_send (d + 1) [.ref a0, .int x1, .int x2] h Q := by
  show Ev w (am_Z w) mX10_send (d + 1) 0 [(0, .ref a0), (1, .int x1), (2, .int x2)] [] h Q
  refine Ev.aload_n 0 (am_dt kX10_send 0 rfl) rfl rfl ?_
  refine Ev.iconst (v := 0) (am_dt kX10_send 1 rfl) (by decide) ?_
  obtain ⟨f1, k⟩ := k
  refine Ev.putI' (ci := 10) (k := 0) (am_dt kX10_send 2 rfl) (by decide) (by decide) wd_583 rfl rfl rfl rfl f1.1 (fun h2 eh2 => ?_)
  have k := k h2 eh2
  have f1 := am_LsI eh2 f1
  refine Ev.iload_n 1 (am_dt kX10_send 3 rfl) rfl rfl ?_
  refine Ev.callS (v := mX10_isMinute) (As := [.int x1]) (st := []) okX10_isMinute wd_749 wd_748 (am_dt kX10_send 4 rfl) rfl rfl (Nat.le_of_ble_eq_true rfl) (Nat.le_of_ble_eq_true rfl) ?_
  refine EvM.mono k (fun r4 h3 k => ?_)
  obtain ⟨v5, rfl, k⟩ := k
  show Ev w _ _ _ 9 _ [.int v5] _ _
  refine Ev.if_eq (tgt := 21) (am_dt kX10_send 5 rfl) (by decide) (fun c => ?_) (fun c => ?_)
  · have k := k.1 c
    refine Ev.iconst (v := (-1)) (am_dt kX10_send 11 rfl) (by decide) ?_
    exact Ev.iret .int (am_dt kX10_send 12 rfl) rfl rfl k
  · have k := k.2 c
    refine Ev.iload_n 2 (am_dt kX10_send 6 rfl) rfl rfl ?_
    refine Ev.iconst (v := 0) (am_dt kX10_send 7 rfl) (by decide) ?_
    refine Ev.iconst (v := 1) (am_dt kX10_send 8 rfl) (by decide) ?_
    refine Ev.callS (v := mX10_within) (As := [.int x2, .int 0, .int 1]) (st := []) okX10_within wd_653 wd_652 (am_dt kX10_send 9 rfl) rfl rfl (Nat.le_of_ble_eq_true rfl) (Nat.le_of_ble_eq_true rfl) ?_
    refine EvM.mono k (fun r7 h6 k => ?_)
    obtain ⟨v8, rfl, k⟩ := k
    show Ev w _ _ _ 18 _ [.int v8] _ _
    refine Ev.if_ne (tgt := 23) (am_dt kX10_send 10 rfl) (by decide) (fun c => ?_) (fun c => ?_)
    · have k := k.2 c
      refine Ev.iconst (v := 0) (am_dt kX10_send 13 rfl) (by decide) ?_
      refine Ev.istore_n (lv' := [(3, .int 0), (0, .ref a0), (1, .int x1), (2, .int x2)]) (am_dt kX10_send 14 rfl) rfl (by decide) rfl ?_
      exact Ev.sub [1, 2, 3, 0] rfl k
    · have k := k.1 c
      refine Ev.iconst (v := (-1)) (am_dt kX10_send 11 rfl) (by decide) ?_
      exact Ev.iret .int (am_dt kX10_send 12 rfl) rfl rfl k
set_option maxRecDepth 20000 in
set_option maxHeartbeats 2000000 in
theorem bX10_send_25 {w : am_W} {d : Nat} {h : am_H} {Q : Option Value → am_H → Prop} {a0 : Nat} {x1 : Int32} {x2 : Int32} {x3 : Int32}  (k : (40 < x3 → (Q (some (.int ((-1)))) h)) ∧ (¬ 40 < x3 → (Ev w (am_Z w) mX10_send (d + 1) 34 [(0, .ref a0), (1, .int x1), (2, .int x2), (3, .int x3), (4, .int 0)] [] h Q))) : Ev w (am_Z w) mX10_send (d + 1) 25 [(0, .ref a0), (1, .int x1), (2, .int x2), (3, .int x3)] [] h Q := by
  refine Ev.iload_n 3 (am_dt kX10_send 15 rfl) rfl rfl ?_
  refine Ev.bipush (v := 40) (am_dt kX10_send 16 rfl) (by decide) ?_
  refine Ev.icmp_gt (tgt := 85) (am_dt kX10_send 17 rfl) (by decide) (fun c => ?_) (fun c => ?_)
  · have k := k.1 c
    refine Ev.iconst (v := (-1)) (am_dt kX10_send 44 rfl) (by decide) ?_
    exact Ev.iret .int (am_dt kX10_send 45 rfl) rfl rfl k
  · have k := k.2 c
    refine Ev.iconst (v := 0) (am_dt kX10_send 18 rfl) (by decide) ?_
    refine Ev.istore (lv' := [(4, .int 0), (0, .ref a0), (1, .int x1), (2, .int x2), (3, .int x3)]) (am_dt kX10_send 19 rfl) (by decide) rfl ?_
    exact Ev.sub [1, 2, 3, 4, 0] rfl k
set_option maxRecDepth 20000 in
set_option maxHeartbeats 2000000 in
theorem bX10_send_34 {w : am_W} {d : Nat} {h : am_H} {Q : Option Value → am_H → Prop} {a0 : Nat} {x1 : Int32} {x2 : Int32} {x3 : Int32} {x4 : Int32}  (k : (2 ≤ x4 → (Ev w (am_Z w) mX10_send (d + 1) 25 [(0, .ref a0), (1, .int x1), (2, .int x2), (3, .int (x3 + 1))] [] h Q)) ∧ (¬ 2 ≤ x4 → ((am_L 10 a0 h) ∧ (EvM w mX10_ringsBy d [.ref a0, .int x1, .int x4, .int x3] h (fun r3 h2 => ∃ v4 : Int32, r3 = some (.int v4) ∧ ((v4 = 0 → (Ev w (am_Z w) mX10_send (d + 1) 34 [(0, .ref a0), (1, .int x1), (2, .int x2), (3, .int x3), (4, .int (x4 + 1))] [] h2 Q)) ∧ (¬ v4 = 0 → ((x2 = 0 → (Q (some (.int x3)) h2)) ∧ (¬ x2 = 0 → ((x3 = 0 → (Q (some (.int ((-1)))) h2)) ∧ (¬ x3 = 0 → (Q (some (.int x4)) h2)))))))))))) : Ev w (am_Z w) mX10_send (d + 1) 34 [(0, .ref a0), (1, .int x1), (2, .int x2), (3, .int x3), (4, .int x4)] [] h Q := by
  refine Ev.iload 4 (am_dt kX10_send 20 rfl) rfl ?_
  refine Ev.iconst (v := 2) (am_dt kX10_send 21 rfl) (by decide) ?_
  refine Ev.icmp_ge (tgt := 79) (am_dt kX10_send 22 rfl) (by decide) (fun c => ?_) (fun c => ?_)
  · have k := k.1 c
    refine Ev.iinc (v := x3 + 1) (lv' := [(3, .int (x3 + 1)), (0, .ref a0), (1, .int x1), (2, .int x2), (4, .int x4)]) 3 (am_dt kX10_send 42 rfl) rfl rfl (by decide) rfl ?_
    refine Ev.goto (tgt := 25) (am_dt kX10_send 43 rfl) (by decide) ?_
    exact Ev.sub [1, 2, 3, 0] rfl k
  · have k := k.2 c
    refine Ev.aload_n 0 (am_dt kX10_send 23 rfl) rfl rfl ?_
    refine Ev.iload_n 1 (am_dt kX10_send 24 rfl) rfl rfl ?_
    refine Ev.iload 4 (am_dt kX10_send 25 rfl) rfl ?_
    refine Ev.iload_n 3 (am_dt kX10_send 26 rfl) rfl rfl ?_
    obtain ⟨f1, k⟩ := k
    refine Ev.callV (ci := 10) (v := mX10_ringsBy) (As := [.int x1, .int x4, .int x3]) (st := []) okX10_ringsBy wd_753 wd_754 wd_755 (am_dt kX10_send 27 rfl) (by decide) rfl rfl (Nat.le_of_ble_eq_true rfl) (Nat.le_of_ble_eq_true rfl) f1.1 ?_
    refine EvM.mono k (fun r3 h2 k => ?_)
    obtain ⟨v4, rfl, k⟩ := k
    show Ev w _ _ _ 48 _ [.int v4] _ _
    refine Ev.if_ne (tgt := 54) (am_dt kX10_send 28 rfl) (by decide) (fun c => ?_) (fun c => ?_)
    · have k := k.2 c
      refine Ev.iload_n 2 (am_dt kX10_send 30 rfl) rfl rfl ?_
      refine Ev.if_ne (tgt := 62) (am_dt kX10_send 31 rfl) (by decide) (fun c => ?_) (fun c => ?_)
      · have k := k.2 c
        refine Ev.iload_n 3 (am_dt kX10_send 34 rfl) rfl rfl ?_
        refine Ev.if_ne (tgt := 70) (am_dt kX10_send 35 rfl) (by decide) (fun c => ?_) (fun c => ?_)
        · have k := k.2 c
          refine Ev.iload 4 (am_dt kX10_send 38 rfl) rfl ?_
          exact Ev.iret .int (am_dt kX10_send 39 rfl) rfl rfl k
        · have k := k.1 c
          refine Ev.iconst (v := (-1)) (am_dt kX10_send 36 rfl) (by decide) ?_
          refine Ev.goto (tgt := 72) (am_dt kX10_send 37 rfl) (by decide) ?_
          exact Ev.iret .int (am_dt kX10_send 39 rfl) rfl rfl k
      · have k := k.1 c
        refine Ev.iload_n 3 (am_dt kX10_send 32 rfl) rfl rfl ?_
        refine Ev.goto (tgt := 72) (am_dt kX10_send 33 rfl) (by decide) ?_
        exact Ev.iret .int (am_dt kX10_send 39 rfl) rfl rfl k
    · have k := k.1 c
      refine Ev.goto (tgt := 73) (am_dt kX10_send 29 rfl) (by decide) ?_
      refine Ev.iinc (v := x4 + 1) (lv' := [(4, .int (x4 + 1)), (0, .ref a0), (1, .int x1), (2, .int x2), (3, .int x3)]) 4 (am_dt kX10_send 40 rfl) rfl rfl (by decide) rfl ?_
      refine Ev.goto (tgt := 34) (am_dt kX10_send 41 rfl) (by decide) ?_
      exact Ev.sub [1, 2, 3, 4, 0] rfl k
set_option maxRecDepth 20000 in
set_option maxHeartbeats 2000000 in
theorem bX10_canTurn_0 {w : am_W} {d : Nat} {h : am_H} {Q : Option Value → am_H → Prop} {a0 : Nat} {x1 : Int32} {x2 : Int32}  (k : (am_L 10 a0 h) ∧ (EvM w mX10_isPerson d [.ref a0, .int x1] h (fun r3 h2 => ∃ v4 : Int32, r3 = some (.int v4) ∧ ((v4 = 0 → (Q (some (.int 0)) h2)) ∧ (¬ v4 = 0 → (EvM w mX10_isMinute d [.int x2] h2 (fun r6 h5 => ∃ v7 : Int32, r6 = some (.int v7) ∧ ((v7 = 0 → (Q (some (.int 0)) h5)) ∧ (¬ v7 = 0 → ((am_L 10 a0 h5) ∧ ((vp_in x1 (hN h5 (a0 + 11))) ∧ (((hI h5 (a0 + 11) (Int32.toNatClampNeg x1)) = 4 → (EvM w mX10_day d [.ref a0, .int ((-1))] h5 (fun r11 h10 => r11 = none ∧ ((am_L 10 a0 h10) ∧ (EvM w mX10_waitsBehind d [.ref a0, .int x1, .int x2] h10 (fun r14 h13 => ∃ v15 : Int32, r14 = some (.int v15) ∧ (narrow .boolean (.int v15) = .int v15 ∧ (Q (some (.int v15)) h13)))))))) ∧ (¬ (hI h5 (a0 + 11) (Int32.toNatClampNeg x1)) = 4 → (Q (some (.int 0)) h5)))))))))))))) : EvM w mX10_canTurn (d + 1) [.ref a0, .int x1, .int x2] h Q := by
  show Ev w (am_Z w) mX10_canTurn (d + 1) 0 [(0, .ref a0), (1, .int x1), (2, .int x2)] [] h Q
  refine Ev.aload_n 0 (am_dt kX10_canTurn 0 rfl) rfl rfl ?_
  refine Ev.iload_n 1 (am_dt kX10_canTurn 1 rfl) rfl rfl ?_
  obtain ⟨f1, k⟩ := k
  refine Ev.callV (ci := 10) (v := mX10_isPerson) (As := [.int x1]) (st := []) okX10_isPerson wd_698 wd_699 wd_700 (am_dt kX10_canTurn 2 rfl) (by decide) rfl rfl (Nat.le_of_ble_eq_true rfl) (Nat.le_of_ble_eq_true rfl) f1.1 ?_
  refine EvM.mono k (fun r3 h2 k => ?_)
  obtain ⟨v4, rfl, k⟩ := k
  show Ev w _ _ _ 5 _ [.int v4] _ _
  refine Ev.if_eq (tgt := 25) (am_dt kX10_canTurn 3 rfl) (by decide) (fun c => ?_) (fun c => ?_)
  · have k := k.1 c
    refine Ev.iconst (v := 0) (am_dt kX10_canTurn 13 rfl) (by decide) ?_
    exact Ev.iret .boolean (am_dt kX10_canTurn 14 rfl) rfl rfl k
  · have k := k.2 c
    refine Ev.iload_n 2 (am_dt kX10_canTurn 4 rfl) rfl rfl ?_
    refine Ev.callS (v := mX10_isMinute) (As := [.int x2]) (st := []) okX10_isMinute wd_749 wd_748 (am_dt kX10_canTurn 5 rfl) rfl rfl (Nat.le_of_ble_eq_true rfl) (Nat.le_of_ble_eq_true rfl) ?_
    refine EvM.mono k (fun r6 h5 k => ?_)
    obtain ⟨v7, rfl, k⟩ := k
    show Ev w _ _ _ 12 _ [.int v7] _ _
    refine Ev.if_eq (tgt := 25) (am_dt kX10_canTurn 6 rfl) (by decide) (fun c => ?_) (fun c => ?_)
    · have k := k.1 c
      refine Ev.iconst (v := 0) (am_dt kX10_canTurn 13 rfl) (by decide) ?_
      exact Ev.iret .boolean (am_dt kX10_canTurn 14 rfl) rfl rfl k
    · have k := k.2 c
      refine Ev.aload_n 0 (am_dt kX10_canTurn 7 rfl) rfl rfl ?_
      obtain ⟨f8, k⟩ := k
      refine Ev.getRe (ci := 10) (k := 19) (r := a0 + 11) (am_dt kX10_canTurn 8 rfl) (by decide) (by decide) rfl wd_552 f8.1 (am_L.r f8 10 rfl) (by omega) ?_
      refine Ev.iload_n 1 (am_dt kX10_canTurn 9 rfl) rfl rfl ?_
      obtain ⟨f9, k⟩ := k
      refine Ev.iald (am_dt kX10_canTurn 10 rfl) (am_L.s f8 10 rfl) f9 ?_
      refine Ev.iconst (v := 4) (am_dt kX10_canTurn 11 rfl) (by decide) ?_
      refine Ev.icmp_eq (tgt := 27) (am_dt kX10_canTurn 12 rfl) (by decide) (fun c => ?_) (fun c => ?_)
      · have k := k.1 c
        refine Ev.aload_n 0 (am_dt kX10_canTurn 15 rfl) rfl rfl ?_
        refine Ev.iconst (v := (-1)) (am_dt kX10_canTurn 16 rfl) (by decide) ?_
        refine Ev.callV (ci := 10) (v := mX10_day) (As := [.int ((-1))]) (st := []) okX10_day wd_742 wd_743 wd_744 (am_dt kX10_canTurn 17 rfl) (by decide) rfl rfl (Nat.le_of_ble_eq_true rfl) (Nat.le_of_ble_eq_true rfl) f8.1 ?_
        refine EvM.mono k (fun r11 h10 k => ?_)
        obtain ⟨rfl, k⟩ := k
        show Ev w _ _ _ 32 _ [] _ _
        refine Ev.aload_n 0 (am_dt kX10_canTurn 18 rfl) rfl rfl ?_
        refine Ev.iload_n 1 (am_dt kX10_canTurn 19 rfl) rfl rfl ?_
        refine Ev.iload_n 2 (am_dt kX10_canTurn 20 rfl) rfl rfl ?_
        obtain ⟨f12, k⟩ := k
        refine Ev.callV (ci := 10) (v := mX10_waitsBehind) (As := [.int x1, .int x2]) (st := []) okX10_waitsBehind wd_750 wd_751 wd_752 (am_dt kX10_canTurn 21 rfl) (by decide) rfl rfl (Nat.le_of_ble_eq_true rfl) (Nat.le_of_ble_eq_true rfl) f12.1 ?_
        refine EvM.mono k (fun r14 h13 k => ?_)
        obtain ⟨v15, rfl, k⟩ := k
        show Ev w _ _ _ 38 _ [.int v15] _ _
        exact Ev.iret .boolean (am_dt kX10_canTurn 22 rfl) rfl k.1 k.2
      · have k := k.2 c
        refine Ev.iconst (v := 0) (am_dt kX10_canTurn 13 rfl) (by decide) ?_
        exact Ev.iret .boolean (am_dt kX10_canTurn 14 rfl) rfl rfl k
set_option maxRecDepth 20000 in
set_option maxHeartbeats 2000000 in
theorem bX10_turns_0 {w : am_W} {d : Nat} {h : am_H} {Q : Option Value → am_H → Prop} {a0 : Nat} {x1 : Int32} {x2 : Int32}  (k : (am_L 10 a0 h) ∧ (EvM w mX10_costAll d [.ref a0, .int x1] h (fun r3 h2 => ∃ v4 : Int32, r3 = some (.int v4) ∧ ((am_L 10 a0 h2) ∧ (EvM w mX10_tellsAll d [.ref a0, .int ((-1))] h2 (fun r7 h6 => r7 = none ∧ ((am_L 10 a0 h6) ∧ (EvM w mX10_goesOn d [.ref a0, .int 0, .int x2] h6 (fun r10 h9 => r10 = none ∧ ((am_L 10 a0 h9) ∧ ((vp_in x1 (hN h9 (a0 + 30))) ∧ (∀ h13 : am_H, h13 = sI h9 (a0 + 30) (Int32.toNatClampNeg x1) ((-2)) → (EvM w mX10_goesOn d [.ref a0, .int (x2 + 1), .int 1439] h13 (fun r15 h14 => r15 = none ∧ ((am_L 10 a0 h14) ∧ (EvM w mX10_costAll d [.ref a0, .int x1] h14 (fun r18 h17 => ∃ v19 : Int32, r18 = some (.int v19) ∧ (Q (some (.int (v4 - v19))) h17)))))))))))))))))) : EvM w mX10_turns (d + 1) [.ref a0, .int x1, .int x2] h Q := by
  show Ev w (am_Z w) mX10_turns (d + 1) 0 [(0, .ref a0), (1, .int x1), (2, .int x2)] [] h Q
  refine Ev.aload_n 0 (am_dt kX10_turns 0 rfl) rfl rfl ?_
  refine Ev.iload_n 1 (am_dt kX10_turns 1 rfl) rfl rfl ?_
  obtain ⟨f1, k⟩ := k
  refine Ev.callV (ci := 10) (v := mX10_costAll) (As := [.int x1]) (st := []) okX10_costAll wd_745 wd_746 wd_747 (am_dt kX10_turns 2 rfl) (by decide) rfl rfl (Nat.le_of_ble_eq_true rfl) (Nat.le_of_ble_eq_true rfl) f1.1 ?_
  refine EvM.mono k (fun r3 h2 k => ?_)
  obtain ⟨v4, rfl, k⟩ := k
  show Ev w _ _ _ 5 _ [.int v4] _ _
  refine Ev.istore_n (lv' := [(3, .int v4), (0, .ref a0), (1, .int x1), (2, .int x2)]) (am_dt kX10_turns 3 rfl) rfl (by decide) rfl ?_
  refine Ev.aload_n 1 (am_dt kX10_turns 4 rfl) rfl rfl ?_
  refine Ev.iconst (v := (-1)) (am_dt kX10_turns 5 rfl) (by decide) ?_
  obtain ⟨f5, k⟩ := k
  refine Ev.callV (ci := 10) (v := mX10_tellsAll) (As := [.int ((-1))]) (st := []) okX10_tellsAll wd_733 wd_734 wd_735 (am_dt kX10_turns 6 rfl) (by decide) rfl rfl (Nat.le_of_ble_eq_true rfl) (Nat.le_of_ble_eq_true rfl) f5.1 ?_
  refine EvM.mono k (fun r7 h6 k => ?_)
  obtain ⟨rfl, k⟩ := k
  show Ev w _ _ _ 11 _ [] _ _
  refine Ev.aload_n 1 (am_dt kX10_turns 7 rfl) rfl rfl ?_
  refine Ev.iconst (v := 0) (am_dt kX10_turns 8 rfl) (by decide) ?_
  refine Ev.iload_n 3 (am_dt kX10_turns 9 rfl) rfl rfl ?_
  obtain ⟨f8, k⟩ := k
  refine Ev.callV (ci := 10) (v := mX10_goesOn) (As := [.int 0, .int x2]) (st := []) okX10_goesOn wd_736 wd_737 wd_738 (am_dt kX10_turns 10 rfl) (by decide) rfl rfl (Nat.le_of_ble_eq_true rfl) (Nat.le_of_ble_eq_true rfl) f8.1 ?_
  refine EvM.mono k (fun r10 h9 k => ?_)
  obtain ⟨rfl, k⟩ := k
  show Ev w _ _ _ 17 _ [] _ _
  refine Ev.aload_n 1 (am_dt kX10_turns 11 rfl) rfl rfl ?_
  obtain ⟨f11, k⟩ := k
  refine Ev.getRe (ci := 10) (k := 42) (r := a0 + 30) (am_dt kX10_turns 12 rfl) (by decide) (by decide) rfl wd_571 f11.1 (am_L.r f11 29 rfl) (by omega) ?_
  refine Ev.iload_n 2 (am_dt kX10_turns 13 rfl) rfl rfl ?_
  refine Ev.bipush (v := (-2)) (am_dt kX10_turns 14 rfl) (by decide) ?_
  obtain ⟨f12, k⟩ := k
  refine Ev.iast' (am_dt kX10_turns 15 rfl) (am_L.s f11 29 rfl) f12 (fun h13 eh13 => ?_)
  have k := k h13 eh13
  have f11 := am_LsI eh13 f11
  refine Ev.aload_n 1 (am_dt kX10_turns 16 rfl) rfl rfl ?_
  refine Ev.iload_n 3 (am_dt kX10_turns 17 rfl) rfl rfl ?_
  refine Ev.iconst (v := 1) (am_dt kX10_turns 18 rfl) (by decide) ?_
  refine Ev.iadd (am_dt kX10_turns 19 rfl) ?_
  refine Ev.sipush (v := 1439) (am_dt kX10_turns 20 rfl) (by decide) ?_
  refine Ev.callV (ci := 10) (v := mX10_goesOn) (As := [.int (x2 + 1), .int 1439]) (st := []) okX10_goesOn wd_736 wd_737 wd_738 (am_dt kX10_turns 21 rfl) (by decide) rfl rfl (Nat.le_of_ble_eq_true rfl) (Nat.le_of_ble_eq_true rfl) f11.1 ?_
  refine EvM.mono k (fun r15 h14 k => ?_)
  obtain ⟨rfl, k⟩ := k
  show Ev w _ _ _ 35 _ [] _ _
  refine Ev.iload_n 0 (am_dt kX10_turns 22 rfl) rfl rfl ?_
  refine Ev.aload_n 1 (am_dt kX10_turns 23 rfl) rfl rfl ?_
  refine Ev.iload_n 2 (am_dt kX10_turns 24 rfl) rfl rfl ?_
  obtain ⟨f16, k⟩ := k
  refine Ev.callV (ci := 10) (v := mX10_costAll) (As := [.int x1]) (st := [.int v4]) okX10_costAll wd_745 wd_746 wd_747 (am_dt kX10_turns 25 rfl) (by decide) rfl rfl (Nat.le_of_ble_eq_true rfl) (Nat.le_of_ble_eq_true rfl) f16.1 ?_
  refine EvM.mono k (fun r18 h17 k => ?_)
  obtain ⟨v19, rfl, k⟩ := k
  show Ev w _ _ _ 41 _ [.int v19, .int v4] _ _
  refine Ev.isub (am_dt kX10_turns 26 rfl) ?_
  exact Ev.iret .int (am_dt kX10_turns 27 rfl) rfl rfl k
set_option maxRecDepth 20000 in
set_option maxHeartbeats 2000000 in
theorem bX10_turn_0 {w : am_W} {d : Nat} {h : am_H} {Q : Option Value → am_H → Prop} {a0 : Nat} {x1 : Int32} {x2 : Int32}  (k : (am_L 10 a0 h) ∧ (EvM w mX10_canTurn d [.ref a0, .int x1, .int x2] h (fun r3 h2 => ∃ v4 : Int32, r3 = some (.int v4) ∧ ((v4 = 0 → ((am_L 10 a0 h2) ∧ (∀ h6 : am_H, h6 = sI h2 a0 0 1 → (((hI h6 a0 0) = 1 → (Q (some (.int 0)) h6)) ∧ (¬ (hI h6 a0 0) = 1 → (EvM w mX10_turns d [.ref a0, .int x1, .int x2] h6 (fun r8 h7 => ∃ v9 : Int32, r8 = some (.int v9) ∧ (Q (some (.int v9)) h7)))))))) ∧ (¬ v4 = 0 → ((am_L 10 a0 h2) ∧ (∀ h11 : am_H, h11 = sI h2 a0 0 0 → (((hI h11 a0 0) = 1 → (Q (some (.int 0)) h11)) ∧ (¬ (hI h11 a0 0) = 1 → (EvM w mX10_turns d [.ref a0, .int x1, .int x2] h11 (fun r13 h12 => ∃ v14 : Int32, r13 = some (.int v14) ∧ (Q (some (.int v14)) h12)))))))))))) : EvM w mX10_turn (d + 1) [.ref a0, .int x1, .int x2] h Q := by
  show Ev w (am_Z w) mX10_turn (d + 1) 0 [(0, .ref a0), (1, .int x1), (2, .int x2)] [] h Q
  refine Ev.aload_n 0 (am_dt kX10_turn 0 rfl) rfl rfl ?_
  refine Ev.aload_n 0 (am_dt kX10_turn 1 rfl) rfl rfl ?_
  refine Ev.iload_n 1 (am_dt kX10_turn 2 rfl) rfl rfl ?_
  refine Ev.iload_n 2 (am_dt kX10_turn 3 rfl) rfl rfl ?_
  obtain ⟨f1, k⟩ := k
  refine Ev.callV (ci := 10) (v := mX10_canTurn) (As := [.int x1, .int x2]) (st := [.ref a0]) okX10_canTurn wd_756 wd_757 wd_758 (am_dt kX10_turn 4 rfl) (by decide) rfl rfl (Nat.le_of_ble_eq_true rfl) (Nat.le_of_ble_eq_true rfl) f1.1 ?_
  refine EvM.mono k (fun r3 h2 k => ?_)
  obtain ⟨v4, rfl, k⟩ := k
  show Ev w _ _ _ 7 _ [.int v4, .ref a0] _ _
  refine Ev.if_eq (tgt := 14) (am_dt kX10_turn 5 rfl) (by decide) (fun c => ?_) (fun c => ?_)
  · have k := k.1 c
    refine Ev.iconst (v := 1) (am_dt kX10_turn 8 rfl) (by decide) ?_
    obtain ⟨f5, k⟩ := k
    refine Ev.putI' (ci := 10) (k := 0) (am_dt kX10_turn 9 rfl) (by decide) (by decide) wd_583 rfl rfl rfl rfl f5.1 (fun h6 eh6 => ?_)
    have k := k h6 eh6
    have f5 := am_LsI eh6 f5
    refine Ev.aload_n 0 (am_dt kX10_turn 10 rfl) rfl rfl ?_
    refine Ev.getI (ci := 10) (k := 0) (am_dt kX10_turn 11 rfl) (by decide) (by decide) rfl wd_583 f5.1 ?_
    refine Ev.iconst (v := 1) (am_dt kX10_turn 12 rfl) (by decide) ?_
    refine Ev.icmp_ne (tgt := 30) (am_dt kX10_turn 13 rfl) (by decide) (fun c => ?_) (fun c => ?_)
    · have k := k.2 c
      refine Ev.aload_n 0 (am_dt kX10_turn 16 rfl) rfl rfl ?_
      refine Ev.iload_n 1 (am_dt kX10_turn 17 rfl) rfl rfl ?_
      refine Ev.iload_n 2 (am_dt kX10_turn 18 rfl) rfl rfl ?_
      refine Ev.callV (ci := 10) (v := mX10_turns) (As := [.int x1, .int x2]) (st := []) okX10_turns wd_759 wd_760 wd_761 (am_dt kX10_turn 19 rfl) (by decide) rfl rfl (Nat.le_of_ble_eq_true rfl) (Nat.le_of_ble_eq_true rfl) f5.1 ?_
      refine EvM.mono k (fun r8 h7 k => ?_)
      obtain ⟨v9, rfl, k⟩ := k
      show Ev w _ _ _ 36 _ [.int v9] _ _
      exact Ev.iret .int (am_dt kX10_turn 20 rfl) rfl rfl k
    · have k := k.1 c
      refine Ev.iconst (v := 0) (am_dt kX10_turn 14 rfl) (by decide) ?_
      refine Ev.goto (tgt := 36) (am_dt kX10_turn 15 rfl) (by decide) ?_
      exact Ev.iret .int (am_dt kX10_turn 20 rfl) rfl rfl k
  · have k := k.2 c
    refine Ev.iconst (v := 0) (am_dt kX10_turn 6 rfl) (by decide) ?_
    refine Ev.goto (tgt := 15) (am_dt kX10_turn 7 rfl) (by decide) ?_
    obtain ⟨f10, k⟩ := k
    refine Ev.putI' (ci := 10) (k := 0) (am_dt kX10_turn 9 rfl) (by decide) (by decide) wd_583 rfl rfl rfl rfl f10.1 (fun h11 eh11 => ?_)
    have k := k h11 eh11
    have f10 := am_LsI eh11 f10
    refine Ev.aload_n 0 (am_dt kX10_turn 10 rfl) rfl rfl ?_
    refine Ev.getI (ci := 10) (k := 0) (am_dt kX10_turn 11 rfl) (by decide) (by decide) rfl wd_583 f10.1 ?_
    refine Ev.iconst (v := 1) (am_dt kX10_turn 12 rfl) (by decide) ?_
    refine Ev.icmp_ne (tgt := 30) (am_dt kX10_turn 13 rfl) (by decide) (fun c => ?_) (fun c => ?_)
    · have k := k.2 c
      refine Ev.aload_n 0 (am_dt kX10_turn 16 rfl) rfl rfl ?_
      refine Ev.iload_n 1 (am_dt kX10_turn 17 rfl) rfl rfl ?_
      refine Ev.iload_n 2 (am_dt kX10_turn 18 rfl) rfl rfl ?_
      refine Ev.callV (ci := 10) (v := mX10_turns) (As := [.int x1, .int x2]) (st := []) okX10_turns wd_759 wd_760 wd_761 (am_dt kX10_turn 19 rfl) (by decide) rfl rfl (Nat.le_of_ble_eq_true rfl) (Nat.le_of_ble_eq_true rfl) f10.1 ?_
      refine EvM.mono k (fun r13 h12 k => ?_)
      obtain ⟨v14, rfl, k⟩ := k
      show Ev w _ _ _ 36 _ [.int v14] _ _
      exact Ev.iret .int (am_dt kX10_turn 20 rfl) rfl rfl k
    · have k := k.1 c
      refine Ev.iconst (v := 0) (am_dt kX10_turn 14 rfl) (by decide) ?_
      refine Ev.goto (tgt := 36) (am_dt kX10_turn 15 rfl) (by decide) ?_
      exact Ev.iret .int (am_dt kX10_turn 20 rfl) rfl rfl k
