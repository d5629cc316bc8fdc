set_option maxRecDepth 20000 in
set_option maxHeartbeats 2000000 in
theorem bX10_isWaiting_0 {w : am_W} {d : Nat} {h : am_H} {Q : Option Value → am_H → Prop} {a0 : Nat} {x1 : Int32} {x2 : Int32}  (k : (hK h a0 = 10) ∧ ((hR h a0 38 ≠ 0) ∧ ((hK h (hR h a0 38) = 12) ∧ ((vp_in x1 (hN h (hR h a0 38))) ∧ ((x2 < (hI h (hR h a0 38) (Int32.toNatClampNeg x1)) → (Q (some (.int 0)) h)) ∧ (¬ x2 < (hI h (hR h a0 38) (Int32.toNatClampNeg x1)) → ((hR h a0 42 ≠ 0) ∧ ((hK h (hR h a0 42) = 12) ∧ ((vp_in x1 (hN h (hR h a0 42))) ∧ (((hI h (hR h a0 42) (Int32.toNatClampNeg x1)) = ((-1)) → (Q (some (.int 1)) h)) ∧ (¬ (hI h (hR h a0 42) (Int32.toNatClampNeg x1)) = ((-1)) → (Q (some (.int 0)) h)))))))))))) : EvM w mX10_isWaiting d [.ref a0, .int x1, .int x2] h Q := by
  show Ev w (am_Z w) mX10_isWaiting d 0 [(0, .ref a0), (1, .int x1), (2, .int x2)] [] h Q
  refine Ev.aload_n 0 (am_dt kX10_isWaiting 0 rfl) rfl rfl ?_
  obtain ⟨f1, k⟩ := k
  obtain ⟨f2, k⟩ := k
  refine Ev.getR (ci := 10) (k := 38) (am_dt kX10_isWaiting 1 rfl) (by decide) (by decide) rfl wd_567 f1 f2 ?_
  refine Ev.iload_n 1 (am_dt kX10_isWaiting 2 rfl) rfl rfl ?_
  obtain ⟨f3, k⟩ := k
  obtain ⟨f4, k⟩ := k
  refine Ev.iald (am_dt kX10_isWaiting 3 rfl) f3 f4 ?_
  refine Ev.iload_n 2 (am_dt kX10_isWaiting 4 rfl) rfl rfl ?_
  refine Ev.icmp_gt (tgt := 24) (am_dt kX10_isWaiting 5 rfl) (by decide) (fun c => ?_) (fun c => ?_)
  · have k := k.1 c
    refine Ev.iconst (v := 0) (am_dt kX10_isWaiting 14 rfl) (by decide) ?_
    exact Ev.iret .boolean (am_dt kX10_isWaiting 15 rfl) rfl rfl k
  · have k := k.2 c
    refine Ev.aload_n 0 (am_dt kX10_isWaiting 6 rfl) rfl rfl ?_
    obtain ⟨f5, k⟩ := k
    refine Ev.getR (ci := 10) (k := 42) (am_dt kX10_isWaiting 7 rfl) (by decide) (by decide) rfl wd_571 f1 f5 ?_
    refine Ev.iload_n 1 (am_dt kX10_isWaiting 8 rfl) rfl rfl ?_
    obtain ⟨f6, k⟩ := k
    obtain ⟨f7, k⟩ := k
    refine Ev.iald (am_dt kX10_isWaiting 9 rfl) f6 f7 ?_
    refine Ev.iconst (v := (-1)) (am_dt kX10_isWaiting 10 rfl) (by decide) ?_
    refine Ev.icmp_ne (tgt := 24) (am_dt kX10_isWaiting 11 rfl) (by decide) (fun c => ?_) (fun c => ?_)
    · have k := k.2 c
      refine Ev.iconst (v := 0) (am_dt kX10_isWaiting 14 rfl) (by decide) ?_
      exact Ev.iret .boolean (am_dt kX10_isWaiting 15 rfl) rfl rfl k
    · have k := k.1 c
      refine Ev.iconst (v := 1) (am_dt kX10_isWaiting 12 rfl) (by decide) ?_
      refine Ev.goto (tgt := 25) (am_dt kX10_isWaiting 13 rfl) (by decide) ?_
      exact Ev.iret .boolean (am_dt kX10_isWaiting 15 rfl) rfl rfl k
set_option maxRecDepth 20000 in
set_option maxHeartbeats 2000000 in
theorem bX10_wouldRing_0 {w : am_W} {d : Nat} {h : am_H} {Q : Option Value → am_H → Prop} {a0 : Nat} {x1 : Int32}  (k : (hK h a0 = 10) ∧ (((hI h a0 48) ≤ x1 → (Ev w (am_Z w) mX10_wouldRing (d + 1) 22 [(0, .ref a0), (1, .int x1), (2, .int 0), (3, .int 1)] [] h Q)) ∧ (¬ (hI h a0 48) ≤ x1 → (((hI h a0 49) ≤ x1 → (Ev w (am_Z w) mX10_wouldRing (d + 1) 22 [(0, .ref a0), (1, .int x1), (2, .int 0), (3, .int 1)] [] h Q)) ∧ (¬ (hI h a0 49) ≤ x1 → (Q (some (.int 0)) h)))))) : EvM w mX10_wouldRing (d + 1) [.ref a0, .int x1] h Q := by
  show Ev w (am_Z w) mX10_wouldRing (d + 1) 0 [(0, .ref a0), (1, .int x1)] [] h Q
  refine Ev.aload_n 0 (am_dt kX10_wouldRing 0 rfl) rfl rfl ?_
  obtain ⟨f1, k⟩ := k
  refine Ev.getI (ci := 10) (k := 48) (am_dt kX10_wouldRing 1 rfl) (by decide) (by decide) rfl wd_705 f1 ?_
  refine Ev.iload_n 1 (am_dt kX10_wouldRing 2 rfl) rfl rfl ?_
  refine Ev.icmp_le (tgt := 18) (am_dt kX10_wouldRing 3 rfl) (by decide) (fun c => ?_) (fun c => ?_)
  · have k := k.1 c
    refine Ev.iconst (v := 0) (am_dt kX10_wouldRing 10 rfl) (by decide) ?_
    refine Ev.istore_n (lv' := [(2, .int 0), (0, .ref a0), (1, .int x1)]) (am_dt kX10_wouldRing 11 rfl) rfl (by decide) rfl ?_
    refine Ev.iconst (v := 1) (am_dt kX10_wouldRing 12 rfl) (by decide) ?_
    refine Ev.istore_n (lv' := [(3, .int 1), (2, .int 0), (0, .ref a0), (1, .int x1)]) (am_dt kX10_wouldRing 13 rfl) rfl (by decide) rfl ?_
    exact Ev.sub [2, 3, 1, 0] rfl k
  · have k := k.2 c
    refine Ev.aload_n 0 (am_dt kX10_wouldRing 4 rfl) rfl rfl ?_
    refine Ev.getI (ci := 10) (k := 49) (am_dt kX10_wouldRing 5 rfl) (by decide) (by decide) rfl wd_706 f1 ?_
    refine Ev.iload_n 1 (am_dt kX10_wouldRing 6 rfl) rfl rfl ?_
    refine Ev.icmp_le (tgt := 18) (am_dt kX10_wouldRing 7 rfl) (by decide) (fun c => ?_) (fun c => ?_)
    · have k := k.1 c
      refine Ev.iconst (v := 0) (am_dt kX10_wouldRing 10 rfl) (by decide) ?_
      refine Ev.istore_n (lv' := [(2, .int 0), (0, .ref a0), (1, .int x1)]) (am_dt kX10_wouldRing 11 rfl) rfl (by decide) rfl ?_
      refine Ev.iconst (v := 1) (am_dt kX10_wouldRing 12 rfl) (by decide) ?_
      refine Ev.istore_n (lv' := [(3, .int 1), (2, .int 0), (0, .ref a0), (1, .int x1)]) (am_dt kX10_wouldRing 13 rfl) rfl (by decide) rfl ?_
      exact Ev.sub [2, 3, 1, 0] rfl k
    · have k := k.2 c
      refine Ev.iconst (v := 0) (am_dt kX10_wouldRing 8 rfl) (by decide) ?_
      exact Ev.iret .boolean (am_dt kX10_wouldRing 9 rfl) rfl rfl k
set_option maxRecDepth 20000 in
set_option maxHeartbeats 2000000 in
theorem bX10_wouldRing_22 {w : am_W} {d : Nat} {h : am_H} {Q : Option Value → am_H → Prop} {a0 : Nat} {x1 : Int32} {x2 : Int32} {x3 : Int32}  (k : (7 ≤ x3 → (Ev w (am_Z w) mX10_wouldRing (d + 1) 43 [(0, .ref a0), (1, .int x1), (2, .int x2), (3, .int 0)] [] h Q)) ∧ (¬ 7 ≤ x3 → ((hK h a0 = 10) ∧ ((hR h a0 34 ≠ 0) ∧ ((hK h (hR h a0 34) = 12) ∧ ((vp_in x3 (hN h (hR h a0 34))) ∧ (∀ h5 : am_H, h5 = sI h (hR h a0 34) (Int32.toNatClampNeg x3) 0 → (Ev w (am_Z w) mX10_wouldRing (d + 1) 22 [(0, .ref a0), (1, .int x1), (2, .int x2), (3, .int (x3 + 1))] [] h5 Q)))))))) : Ev w (am_Z w) mX10_wouldRing (d + 1) 22 [(0, .ref a0), (1, .int x1), (2, .int x2), (3, .int x3)] [] h Q := by
  refine Ev.iload_n 3 (am_dt kX10_wouldRing 14 rfl) rfl rfl ?_
  refine Ev.bipush (v := 7) (am_dt kX10_wouldRing 15 rfl) (by decide) ?_
  refine Ev.icmp_ge (tgt := 41) (am_dt kX10_wouldRing 16 rfl) (by decide) (fun c => ?_) (fun c => ?_)
  · have k := k.1 c
    refine Ev.iconst (v := 0) (am_dt kX10_wouldRing 24 rfl) (by decide) ?_
    refine Ev.istore_n (lv' := [(3, .int 0), (0, .ref a0), (1, .int x1), (2, .int x2)]) (am_dt kX10_wouldRing 25 rfl) rfl (by decide) rfl ?_
    exact Ev.sub [1, 2, 3, 0] rfl k
  · have k := k.2 c
    refine Ev.aload_n 0 (am_dt kX10_wouldRing 17 rfl) rfl rfl ?_
    obtain ⟨f1, k⟩ := k
    obtain ⟨f2, k⟩ := k
    refine Ev.getR (ci := 10) (k := 34) (am_dt kX10_wouldRing 18 rfl) (by decide) (by decide) rfl wd_565 f1 f2 ?_
    refine Ev.iload_n 3 (am_dt kX10_wouldRing 19 rfl) rfl rfl ?_
    refine Ev.iconst (v := 0) (am_dt kX10_wouldRing 20 rfl) (by decide) ?_
    obtain ⟨f3, k⟩ := k
    obtain ⟨f4, k⟩ := k
    refine Ev.iast' (am_dt kX10_wouldRing 21 rfl) f3 f4 (fun h5 eh5 => ?_)
    have k := k h5 eh5
    have f1 := kI eh5 f1
    have f3 := kI eh5 f3
    refine Ev.iinc (v := x3 + 1) (lv' := [(3, .int (x3 + 1)), (0, .ref a0), (1, .int x1), (2, .int x2)]) 3 (am_dt kX10_wouldRing 22 rfl) rfl rfl (by decide) rfl ?_
    refine Ev.goto (tgt := 22) (am_dt kX10_wouldRing 23 rfl) (by decide) ?_
    exact Ev.sub [1, 2, 3, 0] rfl k
set_option maxRecDepth 20000 in
set_option maxHeartbeats 2000000 in
theorem bX10_wouldRing_43 {w : am_W} {d : Nat} {h : am_H} {Q : Option Value → am_H → Prop} {a0 : Nat} {x1 : Int32} {x2 : Int32} {x3 : Int32}  (k : (hK h a0 = 10) ∧ (((hI h a0 36) ≤ x3 → ((hR h a0 34 ≠ 0) ∧ ((hK h (hR h a0 34) = 12) ∧ ((vp_in 6 (hN h (hR h a0 34))) ∧ (∀ h5 : am_H, h5 = sI h (hR h a0 34) (Int32.toNatClampNeg 6) x1 → ((x2 = 0 → (Q (some (.int 0)) h5)) ∧ (¬ x2 = 0 → ((0 ≤ (hI h5 a0 50) → (EvM w mX10_worked d [.ref a0, .int (hI h5 a0 50)] h5 (fun r7 h6 => ∃ v8 : Int32, r7 = some (.int v8) ∧ ((v8 = 0 → (Q (some (.int 0)) h6)) ∧ (¬ v8 = 0 → (Q (some (.int 1)) h6)))))) ∧ (¬ 0 ≤ (hI h5 a0 50) → ((hR h5 a0 34 ≠ 0) ∧ ((hK h5 (hR h5 a0 34) = 12) ∧ ((vp_in 1 (hN h5 (hR h5 a0 34))) ∧ ((vp_in 2 (hN h5 (hR h5 a0 34))) ∧ (((hI h5 (hR h5 a0 34) (Int32.toNatClampNeg 1)) = (hI h5 (hR h5 a0 34) (Int32.toNatClampNeg 2)) → ((vp_in 1 (hN h5 (hR h5 a0 34))) ∧ (((hI h5 (hR h5 a0 34) (Int32.toNatClampNeg 1)) ≤ 0 → (Q (some (.int 0)) h5)) ∧ (¬ (hI h5 (hR h5 a0 34) (Int32.toNatClampNeg 1)) ≤ 0 → (Q (some (.int 1)) h5))))) ∧ (¬ (hI h5 (hR h5 a0 34) (Int32.toNatClampNeg 1)) = (hI h5 (hR h5 a0 34) (Int32.toNatClampNeg 2)) → (Q (some (.int 0)) h5)))))))))))))))) ∧ (¬ (hI h a0 36) ≤ x3 → (EvM w mX10_isWaiting d [.ref a0, .int x3, .int x1] h (fun r15 h14 => ∃ v16 : Int32, r15 = some (.int v16) ∧ ((v16 = 0 → (Ev w (am_Z w) mX10_wouldRing (d + 1) 43 [(0, .ref a0), (1, .int x1), (2, .int x2), (3, .int (x3 + 1))] [] h14 Q)) ∧ (¬ v16 = 0 → ((hK h14 a0 = 10) ∧ ((hR h14 a0 34 ≠ 0) ∧ ((hR h14 a0 37 ≠ 0) ∧ ((hK h14 (hR h14 a0 37) = 12) ∧ ((vp_in x3 (hN h14 (hR h14 a0 37))) ∧ ((hK h14 (hR h14 a0 34) = 12) ∧ ((vp_in (1 + (hI h14 (hR h14 a0 37) (Int32.toNatClampNeg x3))) (hN h14 (hR h14 a0 34))) ∧ ((hR h14 a0 41 ≠ 0) ∧ ((hK h14 (hR h14 a0 41) = 12) ∧ ((vp_in x3 (hN h14 (hR h14 a0 41))) ∧ ((vp_in (1 + (hI h14 (hR h14 a0 37) (Int32.toNatClampNeg x3))) (hN h14 (hR h14 a0 34))) ∧ (∀ h28 : am_H, h28 = sI h14 (hR h14 a0 34) (Int32.toNatClampNeg (1 + (hI h14 (hR h14 a0 37) (Int32.toNatClampNeg x3)))) ((hI h14 (hR h14 a0 34) (Int32.toNatClampNeg (1 + (hI h14 (hR h14 a0 37) (Int32.toNatClampNeg x3))))) + (hI h14 (hR h14 a0 41) (Int32.toNatClampNeg x3))) → ((hR h28 a0 34 ≠ 0) ∧ ((hR h28 a0 37 ≠ 0) ∧ ((hK h28 (hR h28 a0 37) = 12) ∧ ((vp_in x3 (hN h28 (hR h28 a0 37))) ∧ ((hK h28 (hR h28 a0 34) = 12) ∧ ((vp_in (3 + (hI h28 (hR h28 a0 37) (Int32.toNatClampNeg x3))) (hN h28 (hR h28 a0 34))) ∧ ((hR h28 a0 39 ≠ 0) ∧ ((hK h28 (hR h28 a0 39) = 12) ∧ ((vp_in x3 (hN h28 (hR h28 a0 39))) ∧ ((vp_in (3 + (hI h28 (hR h28 a0 37) (Int32.toNatClampNeg x3))) (hN h28 (hR h28 a0 34))) ∧ (∀ h39 : am_H, h39 = sI h28 (hR h28 a0 34) (Int32.toNatClampNeg (3 + (hI h28 (hR h28 a0 37) (Int32.toNatClampNeg x3)))) ((hI h28 (hR h28 a0 34) (Int32.toNatClampNeg (3 + (hI h28 (hR h28 a0 37) (Int32.toNatClampNeg x3))))) + (hI h28 (hR h28 a0 39) (Int32.toNatClampNeg x3))) → ((hR h39 a0 34 ≠ 0) ∧ ((hK h39 (hR h39 a0 34) = 12) ∧ ((vp_in 5 (hN h39 (hR h39 a0 34))) ∧ ((hR h39 a0 38 ≠ 0) ∧ ((hK h39 (hR h39 a0 38) = 12) ∧ ((vp_in x3 (hN h39 (hR h39 a0 38))) ∧ ((vp_in 5 (hN h39 (hR h39 a0 34))) ∧ (∀ h47 : am_H, h47 = sI h39 (hR h39 a0 34) (Int32.toNatClampNeg 5) (if (hI h39 (hR h39 a0 34) (Int32.toNatClampNeg 5)) < (x1 - (hI h39 (hR h39 a0 38) (Int32.toNatClampNeg x3))) then (x1 - (hI h39 (hR h39 a0 38) (Int32.toNatClampNeg x3))) else (hI h39 (hR h39 a0 34) (Int32.toNatClampNeg 5))) → (Ev w (am_Z w) mX10_wouldRing (d + 1) 43 [(0, .ref a0), (1, .int x1), (2, .int 1), (3, .int (x3 + 1))] [] h47 Q))))))))))))))))))))))))))))))))))))))) : Ev w (am_Z w) mX10_wouldRing (d + 1) 43 [(0, .ref a0), (1, .int x1), (2, .int x2), (3, .int x3)] [] h Q := by
  refine Ev.iload_n 3 (am_dt kX10_wouldRing 26 rfl) rfl rfl ?_
  refine Ev.aload_n 0 (am_dt kX10_wouldRing 27 rfl) rfl rfl ?_
  obtain ⟨f1, k⟩ := k
  refine Ev.getI (ci := 10) (k := 36) (am_dt kX10_wouldRing 28 rfl) (by decide) (by decide) rfl wd_703 f1 ?_
  refine Ev.icmp_ge (tgt := 138) (am_dt kX10_wouldRing 29 rfl) (by decide) (fun c => ?_) (fun c => ?_)
  · have k := k.1 c
    refine Ev.aload_n 0 (am_dt kX10_wouldRing 87 rfl) rfl rfl ?_
    obtain ⟨f2, k⟩ := k
    refine Ev.getR (ci := 10) (k := 34) (am_dt kX10_wouldRing 88 rfl) (by decide) (by decide) rfl wd_565 f1 f2 ?_
    refine Ev.bipush (v := 6) (am_dt kX10_wouldRing 89 rfl) (by decide) ?_
    refine Ev.iload_n 1 (am_dt kX10_wouldRing 90 rfl) rfl rfl ?_
    obtain ⟨f3, k⟩ := k
    obtain ⟨f4, k⟩ := k
    refine Ev.iast' (am_dt kX10_wouldRing 91 rfl) f3 f4 (fun h5 eh5 => ?_)
    have k := k h5 eh5
    have f1 := kI eh5 f1
    have f3 := kI eh5 f3
    refine Ev.iload_n 2 (am_dt kX10_wouldRing 92 rfl) rfl rfl ?_
    refine Ev.if_ne (tgt := 152) (am_dt kX10_wouldRing 93 rfl) (by decide) (fun c => ?_) (fun c => ?_)
    · have k := k.2 c
      refine Ev.aload_n 0 (am_dt kX10_wouldRing 96 rfl) rfl rfl ?_
      refine Ev.getI (ci := 10) (k := 50) (am_dt kX10_wouldRing 97 rfl) (by decide) (by decide) rfl wd_707 f1 ?_
      refine Ev.if_ge (tgt := 191) (am_dt kX10_wouldRing 98 rfl) (by decide) (fun c => ?_) (fun c => ?_)
      · have k := k.1 c
        refine Ev.aload_n 0 (am_dt kX10_wouldRing 117 rfl) rfl rfl ?_
        refine Ev.aload_n 0 (am_dt kX10_wouldRing 118 rfl) rfl rfl ?_
        refine Ev.getI (ci := 10) (k := 50) (am_dt kX10_wouldRing 119 rfl) (by decide) (by decide) rfl wd_707 f1 ?_
        refine Ev.callV (ci := 10) (v := mX10_worked) (As := [.int (hI h5 a0 50)]) (st := []) okX10_worked wd_715 wd_716 wd_717 (am_dt kX10_wouldRing 120 rfl) (by decide) rfl rfl (Nat.le_of_ble_eq_true rfl) (Nat.le_of_ble_eq_true rfl) f1 ?_
        refine EvM.mono k (fun r7 h6 k => ?_)
        obtain ⟨v8, rfl, k⟩ := k
        show Ev w _ _ _ 199 _ [.int v8] _ _
        refine Ev.if_eq (tgt := 206) (am_dt kX10_wouldRing 121 rfl) (by decide) (fun c => ?_) (fun c => ?_)
        · have k := k.1 c
          refine Ev.iconst (v := 0) (am_dt kX10_wouldRing 124 rfl) (by decide) ?_
          exact Ev.iret .boolean (am_dt kX10_wouldRing 125 rfl) rfl rfl k
        · have k := k.2 c
          refine Ev.iconst (v := 1) (am_dt kX10_wouldRing 122 rfl) (by decide) ?_
          refine Ev.goto (tgt := 207) (am_dt kX10_wouldRing 123 rfl) (by decide) ?_
          exact Ev.iret .boolean (am_dt kX10_wouldRing 125 rfl) rfl rfl k
      · have k := k.2 c
        refine Ev.aload_n 0 (am_dt kX10_wouldRing 99 rfl) rfl rfl ?_
        obtain ⟨f9, k⟩ := k
        refine Ev.getR (ci := 10) (k := 34) (am_dt kX10_wouldRing 100 rfl) (by decide) (by decide) rfl wd_565 f1 f9 ?_
        refine Ev.iconst (v := 1) (am_dt kX10_wouldRing 101 rfl) (by decide) ?_
        obtain ⟨f10, k⟩ := k
        obtain ⟨f11, k⟩ := k
        refine Ev.iald (am_dt kX10_wouldRing 102 rfl) f10 f11 ?_
        refine Ev.aload_n 0 (am_dt kX10_wouldRing 103 rfl) rfl rfl ?_
        refine Ev.getR (ci := 10) (k := 34) (am_dt kX10_wouldRing 104 rfl) (by decide) (by decide) rfl wd_565 f1 f9 ?_
        refine Ev.iconst (v := 2) (am_dt kX10_wouldRing 105 rfl) (by decide) ?_
        obtain ⟨f12, k⟩ := k
        refine Ev.iald (am_dt kX10_wouldRing 106 rfl) f10 f12 ?_
        refine Ev.icmp_ne (tgt := 187) (am_dt kX10_wouldRing 107 rfl) (by decide) (fun c => ?_) (fun c => ?_)
        · have k := k.2 c
          refine Ev.iconst (v := 0) (am_dt kX10_wouldRing 115 rfl) (by decide) ?_
          refine Ev.goto (tgt := 207) (am_dt kX10_wouldRing 116 rfl) (by decide) ?_
          exact Ev.iret .boolean (am_dt kX10_wouldRing 125 rfl) rfl rfl k
        · have k := k.1 c
          refine Ev.aload_n 0 (am_dt kX10_wouldRing 108 rfl) rfl rfl ?_
          refine Ev.getR (ci := 10) (k := 34) (am_dt kX10_wouldRing 109 rfl) (by decide) (by decide) rfl wd_565 f1 f9 ?_
          refine Ev.iconst (v := 1) (am_dt kX10_wouldRing 110 rfl) (by decide) ?_
          obtain ⟨f13, k⟩ := k
          refine Ev.iald (am_dt kX10_wouldRing 111 rfl) f10 f13 ?_
          refine Ev.if_le (tgt := 187) (am_dt kX10_wouldRing 112 rfl) (by decide) (fun c => ?_) (fun c => ?_)
          · have k := k.1 c
            refine Ev.iconst (v := 0) (am_dt kX10_wouldRing 115 rfl) (by decide) ?_
            refine Ev.goto (tgt := 207) (am_dt kX10_wouldRing 116 rfl) (by decide) ?_
            exact Ev.iret .boolean (am_dt kX10_wouldRing 125 rfl) rfl rfl k
          · have k := k.2 c
            refine Ev.iconst (v := 1) (am_dt kX10_wouldRing 113 rfl) (by decide) ?_
            refine Ev.goto (tgt := 207) (am_dt kX10_wouldRing 114 rfl) (by decide) ?_
            exact Ev.iret .boolean (am_dt kX10_wouldRing 125 rfl) rfl rfl k
    · have k := k.1 c
      refine Ev.iconst (v := 0) (am_dt kX10_wouldRing 94 rfl) (by decide) ?_
      exact Ev.iret .boolean (am_dt kX10_wouldRing 95 rfl) rfl rfl k
  · have k := k.2 c
    refine Ev.aload_n 0 (am_dt kX10_wouldRing 30 rfl) rfl rfl ?_
    refine Ev.iload_n 3 (am_dt kX10_wouldRing 31 rfl) rfl rfl ?_
    refine Ev.iload_n 1 (am_dt kX10_wouldRing 32 rfl) rfl rfl ?_
    refine Ev.callV (ci := 10) (v := mX10_isWaiting) (As := [.int x3, .int x1]) (st := []) okX10_isWaiting wd_718 wd_719 wd_720 (am_dt kX10_wouldRing 33 rfl) (by decide) rfl rfl (Nat.le_of_ble_eq_true rfl) (Nat.le_of_ble_eq_true rfl) f1 ?_
    refine EvM.mono k (fun r15 h14 k => ?_)
    obtain ⟨v16, rfl, k⟩ := k
    show Ev w _ _ _ 57 _ [.int v16] _ _
    refine Ev.if_ne (tgt := 63) (am_dt kX10_wouldRing 34 rfl) (by decide) (fun c => ?_) (fun c => ?_)
    · have k := k.2 c
      refine Ev.iconst (v := 1) (am_dt kX10_wouldRing 36 rfl) (by decide) ?_
      refine Ev.istore_n (lv' := [(2, .int 1), (0, .ref a0), (1, .int x1), (3, .int x3)]) (am_dt kX10_wouldRing 37 rfl) rfl (by decide) rfl ?_
      refine Ev.aload_n 1 (am_dt kX10_wouldRing 38 rfl) rfl rfl ?_
      obtain ⟨f17, k⟩ := k
      obtain ⟨f18, k⟩ := k
      refine Ev.getR (ci := 10) (k := 34) (am_dt kX10_wouldRing 39 rfl) (by decide) (by decide) rfl wd_565 f17 f18 ?_
      refine Ev.iconst (v := 1) (am_dt kX10_wouldRing 40 rfl) (by decide) ?_
      refine Ev.aload_n 1 (am_dt kX10_wouldRing 41 rfl) rfl rfl ?_
      obtain ⟨f19, k⟩ := k
      refine Ev.getR (ci := 10) (k := 37) (am_dt kX10_wouldRing 42 rfl) (by decide) (by decide) rfl wd_566 f17 f19 ?_
      refine Ev.iload_n 3 (am_dt kX10_wouldRing 43 rfl) rfl rfl ?_
      obtain ⟨f20, k⟩ := k
      obtain ⟨f21, k⟩ := k
      refine Ev.iald (am_dt kX10_wouldRing 44 rfl) f20 f21 ?_
      refine Ev.iadd (am_dt kX10_wouldRing 45 rfl) ?_
      refine Ev.dup2 (am_dt kX10_wouldRing 46 rfl) rfl rfl ?_
      obtain ⟨f22, k⟩ := k
      obtain ⟨f23, k⟩ := k
      refine Ev.iald (am_dt kX10_wouldRing 47 rfl) f22 f23 ?_
      refine Ev.aload_n 1 (am_dt kX10_wouldRing 48 rfl) rfl rfl ?_
      obtain ⟨f24, k⟩ := k
      refine Ev.getR (ci := 10) (k := 41) (am_dt kX10_wouldRing 49 rfl) (by decide) (by decide) rfl wd_570 f17 f24 ?_
      refine Ev.iload_n 3 (am_dt kX10_wouldRing 50 rfl) rfl rfl ?_
      obtain ⟨f25, k⟩ := k
      obtain ⟨f26, k⟩ := k
      refine Ev.iald (am_dt kX10_wouldRing 51 rfl) f25 f26 ?_
      refine Ev.iadd (am_dt kX10_wouldRing 52 rfl) ?_
      obtain ⟨f27, k⟩ := k
      refine Ev.iast' (am_dt kX10_wouldRing 53 rfl) f22 f27 (fun h28 eh28 => ?_)
      have k := k h28 eh28
      have f17 := kI eh28 f17
      have f20 := kI eh28 f20
      have f22 := kI eh28 f22
      have f25 := kI eh28 f25
      refine Ev.aload_n 1 (am_dt kX10_wouldRing 54 rfl) rfl rfl ?_
      obtain ⟨f29, k⟩ := k
      refine Ev.getR (ci := 10) (k := 34) (am_dt kX10_wouldRing 55 rfl) (by decide) (by decide) rfl wd_565 f17 f29 ?_
      refine Ev.iconst (v := 3) (am_dt kX10_wouldRing 56 rfl) (by decide) ?_
      refine Ev.aload_n 1 (am_dt kX10_wouldRing 57 rfl) rfl rfl ?_
      obtain ⟨f30, k⟩ := k
      refine Ev.getR (ci := 10) (k := 37) (am_dt kX10_wouldRing 58 rfl) (by decide) (by decide) rfl wd_566 f17 f30 ?_
      refine Ev.iload_n 3 (am_dt kX10_wouldRing 59 rfl) rfl rfl ?_
      obtain ⟨f31, k⟩ := k
      obtain ⟨f32, k⟩ := k
      refine Ev.iald (am_dt kX10_wouldRing 60 rfl) f31 f32 ?_
      refine Ev.iadd (am_dt kX10_wouldRing 61 rfl) ?_
      refine Ev.dup2 (am_dt kX10_wouldRing 62 rfl) rfl rfl ?_
      obtain ⟨f33, k⟩ := k
      obtain ⟨f34, k⟩ := k
      refine Ev.iald (am_dt kX10_wouldRing 63 rfl) f33 f34 ?_
      refine Ev.aload_n 1 (am_dt kX10_wouldRing 64 rfl) rfl rfl ?_
      obtain ⟨f35, k⟩ := k
      refine Ev.getR (ci := 10) (k := 39) (am_dt kX10_wouldRing 65 rfl) (by decide) (by decide) rfl wd_568 f17 f35 ?_
      refine Ev.iload_n 3 (am_dt kX10_wouldRing 66 rfl) rfl rfl ?_
      obtain ⟨f36, k⟩ := k
      obtain ⟨f37, k⟩ := k
      refine Ev.iald (am_dt kX10_wouldRing 67 rfl) f36 f37 ?_
      refine Ev.iadd (am_dt kX10_wouldRing 68 rfl) ?_
      obtain ⟨f38, k⟩ := k
      refine Ev.iast' (am_dt kX10_wouldRing 69 rfl) f33 f38 (fun h39 eh39 => ?_)
      have k := k h39 eh39
      have f17 := kI eh39 f17
      have f20 := kI eh39 f20
      have f22 := kI eh39 f22
      have f25 := kI eh39 f25
      have f31 := kI eh39 f31
      have f33 := kI eh39 f33
      have f36 := kI eh39 f36
      refine Ev.aload_n 1 (am_dt kX10_wouldRing 70 rfl) rfl rfl ?_
      obtain ⟨f40, k⟩ := k
      refine Ev.getR (ci := 10) (k := 34) (am_dt kX10_wouldRing 71 rfl) (by decide) (by decide) rfl wd_565 f17 f40 ?_
      refine Ev.iconst (v := 5) (am_dt kX10_wouldRing 72 rfl) (by decide) ?_
      refine Ev.aload_n 1 (am_dt kX10_wouldRing 73 rfl) rfl rfl ?_
      refine Ev.getR (ci := 10) (k := 34) (am_dt kX10_wouldRing 74 rfl) (by decide) (by decide) rfl wd_565 f17 f40 ?_
      refine Ev.iconst (v := 5) (am_dt kX10_wouldRing 75 rfl) (by decide) ?_
      obtain ⟨f41, k⟩ := k
      obtain ⟨f42, k⟩ := k
      refine Ev.iald (am_dt kX10_wouldRing 76 rfl) f41 f42 ?_
      refine Ev.iload_n 2 (am_dt kX10_wouldRing 77 rfl) rfl rfl ?_
      refine Ev.aload_n 1 (am_dt kX10_wouldRing 78 rfl) rfl rfl ?_
      obtain ⟨f43, k⟩ := k
      refine Ev.getR (ci := 10) (k := 38) (am_dt kX10_wouldRing 79 rfl) (by decide) (by decide) rfl wd_567 f17 f43 ?_
      refine Ev.iload_n 3 (am_dt kX10_wouldRing 80 rfl) rfl rfl ?_
      obtain ⟨f44, k⟩ := k
      obtain ⟨f45, k⟩ := k
      refine Ev.iald (am_dt kX10_wouldRing 81 rfl) f44 f45 ?_
      refine Ev.isub (am_dt kX10_wouldRing 82 rfl) ?_
      refine Ev.mmax wd_665 wd_5 wd_6 wd_7 (am_dt kX10_wouldRing 83 rfl) (Nat.le_of_ble_eq_true rfl) ?_
      obtain ⟨f46, k⟩ := k
      refine Ev.iast' (am_dt kX10_wouldRing 84 rfl) f41 f46 (fun h47 eh47 => ?_)
      have k := k h47 eh47
      have f17 := kI eh47 f17
      have f20 := kI eh47 f20
      have f22 := kI eh47 f22
      have f25 := kI eh47 f25
      have f31 := kI eh47 f31
      have f33 := kI eh47 f33
      have f36 := kI eh47 f36
      have f41 := kI eh47 f41
      have f44 := kI eh47 f44
      refine Ev.iinc (v := x3 + 1) (lv' := [(3, .int (x3 + 1)), (2, .int 1), (0, .ref a0), (1, .int x1)]) 3 (am_dt kX10_wouldRing 85 rfl) rfl rfl (by decide) rfl ?_
      refine Ev.goto (tgt := 43) (am_dt kX10_wouldRing 86 rfl) (by decide) ?_
      exact Ev.sub [2, 3, 1, 0] rfl k
    · have k := k.1 c
      refine Ev.goto (tgt := 132) (am_dt kX10_wouldRing 35 rfl) (by decide) ?_
      refine Ev.iinc (v := x3 + 1) (lv' := [(3, .int (x3 + 1)), (0, .ref a0), (1, .int x1), (2, .int x2)]) 3 (am_dt kX10_wouldRing 85 rfl) rfl rfl (by decide) rfl ?_
      refine Ev.goto (tgt := 43) (am_dt kX10_wouldRing 86 rfl) (by decide) ?_
      exact Ev.sub [1, 2, 3, 0] rfl k
set_option maxRecDepth 20000 in
set_option maxHeartbeats 2000000 in
theorem bX10_firstOf_0 {w : am_W} {d : Nat} {h : am_H} {Q : Option Value → am_H → Prop} {a0 : Nat} {x1 : Int32} {x2 : Int32}  (k : Ev w (am_Z w) mX10_firstOf (d + 1) 5 [(0, .ref a0), (1, .int x1), (2, .int x2), (3, .int ((-1))), (4, .int 0)] [] h Q) : EvM w mX10_firstOf (d + 1) [.ref a0, .int x1, .int x2] h Q := by
  show Ev w (am_Z w) mX10_firstOf (d + 1) 0 [(0, .ref a0), (1, .int x1), (2, .int x2)] [] h Q
  refine Ev.iconst (v := (-1)) (am_dt kX10_firstOf 0 rfl) (by decide) ?_
  refine Ev.istore_n (lv' := [(3, .int ((-1))), (0, .ref a0), (1, .int x1), (2, .int x2)]) (am_dt kX10_firstOf 1 rfl) rfl (by decide) rfl ?_
  refine Ev.iconst (v := 0) (am_dt kX10_firstOf 2 rfl) (by decide) ?_
  refine Ev.istore (lv' := [(4, .int 0), (3, .int ((-1))), (0, .ref a0), (1, .int x1), (2, .int x2)]) (am_dt kX10_firstOf 3 rfl) (by decide) rfl ?_
  exact Ev.sub [2, 3, 4, 1, 0] rfl k
set_option maxRecDepth 20000 in
set_option maxHeartbeats 2000000 in
theorem bX10_firstOf_5 {w : am_W} {d : Nat} {h : am_H} {Q : Option Value → am_H → Prop} {a0 : Nat} {x1 : Int32} {x2 : Int32} {x3 : Int32} {x4 : Int32}  (k : (hK h a0 = 10) ∧ (((hI h a0 36) ≤ x4 → (Q (some (.int x3)) h)) ∧ (¬ (hI h a0 36) ≤ x4 → ((hR h a0 37 ≠ 0) ∧ ((hK h (hR h a0 37) = 12) ∧ ((vp_in x4 (hN h (hR h a0 37))) ∧ (((hI h (hR h a0 37) (Int32.toNatClampNeg x4)) = x1 → (EvM w mX10_isWaiting d [.ref a0, .int x4, .int x2] h (fun r6 h5 => ∃ v7 : Int32, r6 = some (.int v7) ∧ ((v7 = 0 → (Ev w (am_Z w) mX10_firstOf (d + 1) 5 [(0, .ref a0), (1, .int x1), (2, .int x2), (3, .int x3), (4, .int (x4 + 1))] [] h5 Q)) ∧ (¬ v7 = 0 → ((x3 < 0 → (Ev w (am_Z w) mX10_firstOf (d + 1) 5 [(0, .ref a0), (1, .int x1), (2, .int x2), (3, .int x4), (4, .int (x4 + 1))] [] h5 Q)) ∧ (¬ x3 < 0 → ((hK h5 a0 = 10) ∧ ((hR h5 a0 38 ≠ 0) ∧ ((hK h5 (hR h5 a0 38) = 12) ∧ ((vp_in x4 (hN h5 (hR h5 a0 38))) ∧ ((vp_in x3 (hN h5 (hR h5 a0 38))) ∧ (((hI h5 (hR h5 a0 38) (Int32.toNatClampNeg x3)) ≤ (hI h5 (hR h5 a0 38) (Int32.toNatClampNeg x4)) → (Ev w (am_Z w) mX10_firstOf (d + 1) 5 [(0, .ref a0), (1, .int x1), (2, .int x2), (3, .int x3), (4, .int (x4 + 1))] [] h5 Q)) ∧ (¬ (hI h5 (hR h5 a0 38) (Int32.toNatClampNeg x3)) ≤ (hI h5 (hR h5 a0 38) (Int32.toNatClampNeg x4)) → (Ev w (am_Z w) mX10_firstOf (d + 1) 5 [(0, .ref a0), (1, .int x1), (2, .int x2), (3, .int x4), (4, .int (x4 + 1))] [] h5 Q))))))))))))))) ∧ (¬ (hI h (hR h a0 37) (Int32.toNatClampNeg x4)) = x1 → (Ev w (am_Z w) mX10_firstOf (d + 1) 5 [(0, .ref a0), (1, .int x1), (2, .int x2), (3, .int x3), (4, .int (x4 + 1))] [] h Q))))))))) : Ev w (am_Z w) mX10_firstOf (d + 1) 5 [(0, .ref a0), (1, .int x1), (2, .int x2), (3, .int x3), (4, .int x4)] [] h Q := by
  refine Ev.iload 4 (am_dt kX10_firstOf 4 rfl) rfl ?_
  refine Ev.aload_n 0 (am_dt kX10_firstOf 5 rfl) rfl rfl ?_
  obtain ⟨f1, k⟩ := k
  refine Ev.getI (ci := 10) (k := 36) (am_dt kX10_firstOf 6 rfl) (by decide) (by decide) rfl wd_703 f1 ?_
  refine Ev.icmp_ge (tgt := 64) (am_dt kX10_firstOf 7 rfl) (by decide) (fun c => ?_) (fun c => ?_)
  · have k := k.1 c
    refine Ev.iload_n 3 (am_dt kX10_firstOf 34 rfl) rfl rfl ?_
    exact Ev.iret .int (am_dt kX10_firstOf 35 rfl) rfl rfl k
  · have k := k.2 c
    refine Ev.aload_n 0 (am_dt kX10_firstOf 8 rfl) rfl rfl ?_
    obtain ⟨f2, k⟩ := k
    refine Ev.getR (ci := 10) (k := 37) (am_dt kX10_firstOf 9 rfl) (by decide) (by decide) rfl wd_566 f1 f2 ?_
    refine Ev.iload 4 (am_dt kX10_firstOf 10 rfl) rfl ?_
    obtain ⟨f3, k⟩ := k
    obtain ⟨f4, k⟩ := k
    refine Ev.iald (am_dt kX10_firstOf 11 rfl) f3 f4 ?_
    refine Ev.iload_n 1 (am_dt kX10_firstOf 12 rfl) rfl rfl ?_
    refine Ev.icmp_ne (tgt := 58) (am_dt kX10_firstOf 13 rfl) (by decide) (fun c => ?_) (fun c => ?_)
    · have k := k.2 c
      refine Ev.iinc (v := x4 + 1) (lv' := [(4, .int (x4 + 1)), (0, .ref a0), (1, .int x1), (2, .int x2), (3, .int x3)]) 4 (am_dt kX10_firstOf 32 rfl) rfl rfl (by decide) rfl ?_
      refine Ev.goto (tgt := 5) (am_dt kX10_firstOf 33 rfl) (by decide) ?_
      exact Ev.sub [1, 2, 3, 4, 0] rfl k
    · have k := k.1 c
      refine Ev.aload_n 0 (am_dt kX10_firstOf 14 rfl) rfl rfl ?_
      refine Ev.iload 4 (am_dt kX10_firstOf 15 rfl) rfl ?_
      refine Ev.iload_n 2 (am_dt kX10_firstOf 16 rfl) rfl rfl ?_
      refine Ev.callV (ci := 10) (v := mX10_isWaiting) (As := [.int x4, .int x2]) (st := []) okX10_isWaiting wd_718 wd_719 wd_720 (am_dt kX10_firstOf 17 rfl) (by decide) rfl rfl (Nat.le_of_ble_eq_true rfl) (Nat.le_of_ble_eq_true rfl) f1 ?_
      refine EvM.mono k (fun r6 h5 k => ?_)
      obtain ⟨v7, rfl, k⟩ := k
      show Ev w _ _ _ 32 _ [.int v7] _ _
      refine Ev.if_eq (tgt := 58) (am_dt kX10_firstOf 18 rfl) (by decide) (fun c => ?_) (fun c => ?_)
      · have k := k.1 c
        refine Ev.iinc (v := x4 + 1) (lv' := [(4, .int (x4 + 1)), (0, .ref a0), (1, .int x1), (2, .int x2), (3, .int x3)]) 4 (am_dt kX10_firstOf 32 rfl) rfl rfl (by decide) rfl ?_
        refine Ev.goto (tgt := 5) (am_dt kX10_firstOf 33 rfl) (by decide) ?_
        exact Ev.sub [1, 2, 3, 4, 0] rfl k
      · have k := k.2 c
        refine Ev.iload_n 3 (am_dt kX10_firstOf 19 rfl) rfl rfl ?_
        refine Ev.if_lt (tgt := 55) (am_dt kX10_firstOf 20 rfl) (by decide) (fun c => ?_) (fun c => ?_)
        · have k := k.1 c
          refine Ev.iload 4 (am_dt kX10_firstOf 30 rfl) rfl ?_
          refine Ev.istore_n (lv' := [(3, .int x4), (0, .ref a0), (1, .int x1), (2, .int x2), (4, .int x4)]) (am_dt kX10_firstOf 31 rfl) rfl (by decide) rfl ?_
          refine Ev.iinc (v := x4 + 1) (lv' := [(4, .int (x4 + 1)), (3, .int x4), (0, .ref a0), (1, .int x1), (2, .int x2)]) 4 (am_dt kX10_firstOf 32 rfl) rfl rfl (by decide) rfl ?_
          refine Ev.goto (tgt := 5) (am_dt kX10_firstOf 33 rfl) (by decide) ?_
          exact Ev.sub [2, 3, 4, 1, 0] rfl k
        · have k := k.2 c
          refine Ev.aload_n 0 (am_dt kX10_firstOf 21 rfl) rfl rfl ?_
          obtain ⟨f8, k⟩ := k
          obtain ⟨f9, k⟩ := k
          refine Ev.getR (ci := 10) (k := 38) (am_dt kX10_firstOf 22 rfl) (by decide) (by decide) rfl wd_567 f8 f9 ?_
          refine Ev.iload 4 (am_dt kX10_firstOf 23 rfl) rfl ?_
          obtain ⟨f10, k⟩ := k
          obtain ⟨f11, k⟩ := k
          refine Ev.iald (am_dt kX10_firstOf 24 rfl) f10 f11 ?_
          refine Ev.aload_n 0 (am_dt kX10_firstOf 25 rfl) rfl rfl ?_
          refine Ev.getR (ci := 10) (k := 38) (am_dt kX10_firstOf 26 rfl) (by decide) (by decide) rfl wd_567 f8 f9 ?_
          refine Ev.iload_n 3 (am_dt kX10_firstOf 27 rfl) rfl rfl ?_
          obtain ⟨f12, k⟩ := k
          refine Ev.iald (am_dt kX10_firstOf 28 rfl) f10 f12 ?_
          refine Ev.icmp_ge (tgt := 58) (am_dt kX10_firstOf 29 rfl) (by decide) (fun c => ?_) (fun c => ?_)
          · have k := k.1 c
            refine Ev.iinc (v := x4 + 1) (lv' := [(4, .int (x4 + 1)), (0, .ref a0), (1, .int x1), (2, .int x2), (3, .int x3)]) 4 (am_dt kX10_firstOf 32 rfl) rfl rfl (by decide) rfl ?_
            refine Ev.goto (tgt := 5) (am_dt kX10_firstOf 33 rfl) (by decide) ?_
            exact Ev.sub [1, 2, 3, 4, 0] rfl k
          · have k := k.2 c
            refine Ev.iload 4 (am_dt kX10_firstOf 30 rfl) rfl ?_
            refine Ev.istore_n (lv' := [(3, .int x4), (0, .ref a0), (1, .int x1), (2, .int x2), (4, .int x4)]) (am_dt kX10_firstOf 31 rfl) rfl (by decide) rfl ?_
            refine Ev.iinc (v := x4 + 1) (lv' := [(4, .int (x4 + 1)), (3, .int x4), (0, .ref a0), (1, .int x1), (2, .int x2)]) 4 (am_dt kX10_firstOf 32 rfl) rfl rfl (by decide) rfl ?_
            refine Ev.goto (tgt := 5) (am_dt kX10_firstOf 33 rfl) (by decide) ?_
            exact Ev.sub [2, 3, 4, 1, 0] rfl k
set_option maxRecDepth 20000 in
set_option maxHeartbeats 2000000 in
theorem bX10_leaves_0 {w : am_W} {d : Nat} {h : am_H} {Q : Option Value → am_H → Prop} {a0 : Nat} {x1 : Int32} {x2 : Int32}  (k : (hK h a0 = 10) ∧ (EvM w mX10_firstOf d [.ref a0, .int x1, .int x2] h (fun r3 h2 => ∃ v4 : Int32, r3 = some (.int v4) ∧ (Ev w (am_Z w) mX10_leaves (d + 1) 10 [(0, .ref a0), (1, .int x1), (2, .int x2), (3, .int 0), (4, .int v4)] [] h2 Q)))) : EvM w mX10_leaves (d + 1) [.ref a0, .int x1, .int x2] h Q := by
  show Ev w (am_Z w) mX10_leaves (d + 1) 0 [(0, .ref a0), (1, .int x1), (2, .int x2)] [] h Q
  refine Ev.iconst (v := 0) (am_dt kX10_leaves 0 rfl) (by decide) ?_
  refine Ev.istore_n (lv' := [(3, .int 0), (0, .ref a0), (1, .int x1), (2, .int x2)]) (am_dt kX10_leaves 1 rfl) rfl (by decide) rfl ?_
  refine Ev.aload_n 1 (am_dt kX10_leaves 2 rfl) rfl rfl ?_
  refine Ev.iload_n 2 (am_dt kX10_leaves 3 rfl) rfl rfl ?_
  refine Ev.iload_n 3 (am_dt kX10_leaves 4 rfl) rfl rfl ?_
  obtain ⟨f1, k⟩ := k
  refine Ev.callV (ci := 10) (v := mX10_firstOf) (As := [.int x1, .int x2]) (st := []) okX10_firstOf wd_721 wd_722 wd_723 (am_dt kX10_leaves 5 rfl) (by decide) rfl rfl (Nat.le_of_ble_eq_true rfl) (Nat.le_of_ble_eq_true rfl) f1 ?_
  refine EvM.mono k (fun r3 h2 k => ?_)
  obtain ⟨v4, rfl, k⟩ := k
  show Ev w _ _ _ 8 _ [.int v4] _ _
  refine Ev.istore (lv' := [(4, .int v4), (3, .int 0), (0, .ref a0), (1, .int x1), (2, .int x2)]) (am_dt kX10_leaves 6 rfl) (by decide) rfl ?_
  exact Ev.sub [2, 3, 4, 1, 0] rfl k
set_option maxRecDepth 20000 in
set_option maxHeartbeats 2000000 in
theorem bX10_leaves_10 {w : am_W} {d : Nat} {h : am_H} {Q : Option Value → am_H → Prop} {a0 : Nat} {x1 : Int32} {x2 : Int32} {x3 : Int32} {x4 : Int32}  (k : (x4 < 0 → (Q (some (.int x3)) h)) ∧ (¬ x4 < 0 → ((hK h a0 = 10) ∧ ((hR h a0 10 ≠ 0) ∧ ((hK h (hR h a0 10) = 12) ∧ ((vp_in 0 (hN h (hR h a0 10))) ∧ (((hI h (hR h a0 10) (Int32.toNatClampNeg 0)) ≤ x3 → (Q (some (.int x3)) h)) ∧ (¬ (hI h (hR h a0 10) (Int32.toNatClampNeg 0)) ≤ x3 → ((hR h a0 42 ≠ 0) ∧ ((hK h (hR h a0 42) = 12) ∧ ((vp_in x4 (hN h (hR h a0 42))) ∧ (∀ h8 : am_H, h8 = sI h (hR h a0 42) (Int32.toNatClampNeg x4) x2 → ((hR h8 a0 43 ≠ 0) ∧ ((hK h8 (hR h8 a0 43) = 12) ∧ ((vp_in x4 (hN h8 (hR h8 a0 43))) ∧ (∀ h12 : am_H, h12 = sI h8 (hR h8 a0 43) (Int32.toNatClampNeg x4) (hI h8 a0 44) → (EvM w mX10_firstOf d [.ref a0, .int x1, .int x2] h12 (fun r14 h13 => ∃ v15 : Int32, r14 = some (.int v15) ∧ (Ev w (am_Z w) mX10_leaves (d + 1) 10 [(0, .ref a0), (1, .int x1), (2, .int x2), (3, .int (x3 + 1)), (4, .int v15)] [] h13 Q))))))))))))))))))) : Ev w (am_Z w) mX10_leaves (d + 1) 10 [(0, .ref a0), (1, .int x1), (2, .int x2), (3, .int x3), (4, .int x4)] [] h Q := by
  refine Ev.iload 4 (am_dt kX10_leaves 7 rfl) rfl ?_
  refine Ev.if_lt (tgt := 58) (am_dt kX10_leaves 8 rfl) (by decide) (fun c => ?_) (fun c => ?_)
  · have k := k.1 c
    refine Ev.iload_n 3 (am_dt kX10_leaves 33 rfl) rfl rfl ?_
    exact Ev.iret .int (am_dt kX10_leaves 34 rfl) rfl rfl k
  · have k := k.2 c
    refine Ev.iload_n 3 (am_dt kX10_leaves 9 rfl) rfl rfl ?_
    refine Ev.aload_n 0 (am_dt kX10_leaves 10 rfl) rfl rfl ?_
    obtain ⟨f1, k⟩ := k
    obtain ⟨f2, k⟩ := k
    refine Ev.getR (ci := 10) (k := 10) (am_dt kX10_leaves 11 rfl) (by decide) (by decide) rfl wd_543 f1 f2 ?_
    refine Ev.iconst (v := 0) (am_dt kX10_leaves 12 rfl) (by decide) ?_
    obtain ⟨f3, k⟩ := k
    obtain ⟨f4, k⟩ := k
    refine Ev.iald (am_dt kX10_leaves 13 rfl) f3 f4 ?_
    refine Ev.icmp_ge (tgt := 58) (am_dt kX10_leaves 14 rfl) (by decide) (fun c => ?_) (fun c => ?_)
    · have k := k.1 c
      refine Ev.iload_n 3 (am_dt kX10_leaves 33 rfl) rfl rfl ?_
      exact Ev.iret .int (am_dt kX10_leaves 34 rfl) rfl rfl k
    · have k := k.2 c
      refine Ev.aload_n 0 (am_dt kX10_leaves 15 rfl) rfl rfl ?_
      obtain ⟨f5, k⟩ := k
      refine Ev.getR (ci := 10) (k := 42) (am_dt kX10_leaves 16 rfl) (by decide) (by decide) rfl wd_571 f1 f5 ?_
      refine Ev.iload 4 (am_dt kX10_leaves 17 rfl) rfl ?_
      refine Ev.iload_n 2 (am_dt kX10_leaves 18 rfl) rfl rfl ?_
      obtain ⟨f6, k⟩ := k
      obtain ⟨f7, k⟩ := k
      refine Ev.iast' (am_dt kX10_leaves 19 rfl) f6 f7 (fun h8 eh8 => ?_)
      have k := k h8 eh8
      have f1 := kI eh8 f1
      have f3 := kI eh8 f3
      have f6 := kI eh8 f6
      refine Ev.aload_n 0 (am_dt kX10_leaves 20 rfl) rfl rfl ?_
      obtain ⟨f9, k⟩ := k
      refine Ev.getR (ci := 10) (k := 43) (am_dt kX10_leaves 21 rfl) (by decide) (by decide) rfl wd_572 f1 f9 ?_
      refine Ev.iload 4 (am_dt kX10_leaves 22 rfl) rfl ?_
      refine Ev.aload_n 0 (am_dt kX10_leaves 23 rfl) rfl rfl ?_
      refine Ev.getI (ci := 10) (k := 44) (am_dt kX10_leaves 24 rfl) (by decide) (by decide) rfl wd_704 f1 ?_
      obtain ⟨f10, k⟩ := k
      obtain ⟨f11, k⟩ := k
      refine Ev.iast' (am_dt kX10_leaves 25 rfl) f10 f11 (fun h12 eh12 => ?_)
      have k := k h12 eh12
      have f1 := kI eh12 f1
      have f3 := kI eh12 f3
      have f6 := kI eh12 f6
      have f10 := kI eh12 f10
      refine Ev.iinc (v := x3 + 1) (lv' := [(3, .int (x3 + 1)), (0, .ref a0), (1, .int x1), (2, .int x2), (4, .int x4)]) 3 (am_dt kX10_leaves 26 rfl) rfl rfl (by decide) rfl ?_
      refine Ev.aload_n 1 (am_dt kX10_leaves 27 rfl) rfl rfl ?_
      refine Ev.iload_n 2 (am_dt kX10_leaves 28 rfl) rfl rfl ?_
      refine Ev.iload_n 3 (am_dt kX10_leaves 29 rfl) rfl rfl ?_
      refine Ev.callV (ci := 10) (v := mX10_firstOf) (As := [.int x1, .int x2]) (st := []) okX10_firstOf wd_721 wd_722 wd_723 (am_dt kX10_leaves 30 rfl) (by decide) rfl rfl (Nat.le_of_ble_eq_true rfl) (Nat.le_of_ble_eq_true rfl) f1 ?_
      refine EvM.mono k (fun r14 h13 k => ?_)
      obtain ⟨v15, rfl, k⟩ := k
      show Ev w _ _ _ 53 _ [.int v15] _ _
      refine Ev.istore (lv' := [(4, .int v15), (3, .int (x3 + 1)), (0, .ref a0), (1, .int x1), (2, .int x2)]) (am_dt kX10_leaves 31 rfl) (by decide) rfl ?_
      refine Ev.goto (tgt := 10) (am_dt kX10_leaves 32 rfl) (by decide) ?_
      exact Ev.sub [2, 3, 4, 1, 0] rfl k
set_option maxRecDepth 20000 in
set_option maxHeartbeats 2000000 in
theorem bX10_ringsOnce_0 {w : am_W} {d : Nat} {h : am_H} {Q : Option Value → am_H → Prop} {a0 : Nat} {x1 : Int32}  (k : (hK h a0 = 10) ∧ ((hR h a0 45 ≠ 0) ∧ ((hK h (hR h a0 45) = 12) ∧ ((vp_in (hI h a0 44) (hN h (hR h a0 45))) ∧ (∀ h5 : am_H, h5 = sI h (hR h a0 45) (Int32.toNatClampNeg (hI h a0 44)) x1 → ((hR h5 a0 46 ≠ 0) ∧ (EvM w mX10_leaves d [.ref a0, .int 0, .int x1] h5 (fun r8 h7 => ∃ v9 : Int32, r8 = some (.int v9) ∧ ((hK h7 (hR h5 a0 46) = 12) ∧ ((vp_in (hI h5 a0 44) (hN h7 (hR h5 a0 46))) ∧ (∀ h12 : am_H, h12 = sI h7 (hR h5 a0 46) (Int32.toNatClampNeg (hI h5 a0 44)) v9 → ((hK h12 a0 = 10) ∧ ((hR h12 a0 47 ≠ 0) ∧ (EvM w mX10_leaves d [.ref a0, .int 1, .int x1] h12 (fun r16 h15 => ∃ v17 : Int32, r16 = some (.int v17) ∧ ((hK h15 (hR h12 a0 47) = 12) ∧ ((vp_in (hI h12 a0 44) (hN h15 (hR h12 a0 47))) ∧ (∀ h20 : am_H, h20 = sI h15 (hR h12 a0 47) (Int32.toNatClampNeg (hI h12 a0 44)) v17 → ((hK h20 a0 = 10) ∧ (∀ h22 : am_H, h22 = sI h20 a0 44 ((hI h20 a0 44) + 1) → ((x1 < (hI h22 a0 48) → ((hR h22 a0 10 ≠ 0) ∧ ((hK h22 (hR h22 a0 10) = 12) ∧ ((vp_in 1 (hN h22 (hR h22 a0 10))) ∧ (∀ h26 : am_H, h26 = sI h22 a0 49 (x1 + (hI h22 (hR h22 a0 10) (Int32.toNatClampNeg 1))) → (Q none h26)))))) ∧ (¬ x1 < (hI h22 a0 48) → ((hR h22 a0 10 ≠ 0) ∧ ((hK h22 (hR h22 a0 10) = 12) ∧ ((vp_in 1 (hN h22 (hR h22 a0 10))) ∧ (∀ h30 : am_H, h30 = sI h22 a0 48 (x1 + (hI h22 (hR h22 a0 10) (Int32.toNatClampNeg 1))) → (Q none h30))))))))))))))))))))))))))) : EvM w mX10_ringsOnce (d + 1) [.ref a0, .int x1] h Q := by
  show Ev w (am_Z w) mX10_ringsOnce (d + 1) 0 [(0, .ref a0), (1, .int x1)] [] h Q
  refine Ev.aload_n 0 (am_dt kX10_ringsOnce 0 rfl) rfl rfl ?_
  obtain ⟨f1, k⟩ := k
  obtain ⟨f2, k⟩ := k
  refine Ev.getR (ci := 10) (k := 45) (am_dt kX10_ringsOnce 1 rfl) (by decide) (by decide) rfl wd_573 f1 f2 ?_
  refine Ev.aload_n 0 (am_dt kX10_ringsOnce 2 rfl) rfl rfl ?_
  refine Ev.getI (ci := 10) (k := 44) (am_dt kX10_ringsOnce 3 rfl) (by decide) (by decide) rfl wd_704 f1 ?_
  refine Ev.iload_n 1 (am_dt kX10_ringsOnce 4 rfl) rfl rfl ?_
  obtain ⟨f3, k⟩ := k
  obtain ⟨f4, k⟩ := k
  refine Ev.iast' (am_dt kX10_ringsOnce 5 rfl) f3 f4 (fun h5 eh5 => ?_)
  have k := k h5 eh5
  have f1 := kI eh5 f1
  have f3 := kI eh5 f3
  refine Ev.aload_n 0 (am_dt kX10_ringsOnce 6 rfl) rfl rfl ?_
  obtain ⟨f6, k⟩ := k
  refine Ev.getR (ci := 10) (k := 46) (am_dt kX10_ringsOnce 7 rfl) (by decide) (by decide) rfl wd_574 f1 f6 ?_
  refine Ev.aload_n 0 (am_dt kX10_ringsOnce 8 rfl) rfl rfl ?_
  refine Ev.getI (ci := 10) (k := 44) (am_dt kX10_ringsOnce 9 rfl) (by decide) (by decide) rfl wd_704 f1 ?_
  refine Ev.aload_n 0 (am_dt kX10_ringsOnce 10 rfl) rfl rfl ?_
  refine Ev.iconst (v := 0) (am_dt kX10_ringsOnce 11 rfl) (by decide) ?_
  refine Ev.iload_n 1 (am_dt kX10_ringsOnce 12 rfl) rfl rfl ?_
  refine Ev.callV (ci := 10) (v := mX10_leaves) (As := [.int 0, .int x1]) (st := [.int (hI h5 a0 44), .ref (hR h5 a0 46)]) okX10_leaves wd_724 wd_725 wd_726 (am_dt kX10_ringsOnce 13 rfl) (by decide) rfl rfl (Nat.le_of_ble_eq_true rfl) (Nat.le_of_ble_eq_true rfl) f1 ?_
  refine EvM.mono k (fun r8 h7 k => ?_)
  obtain ⟨v9, rfl, k⟩ := k
  show Ev w _ _ _ 24 _ [.int v9, .int (hI h5 a0 44), .ref (hR h5 a0 46)] _ _
  obtain ⟨f10, k⟩ := k
  obtain ⟨f11, k⟩ := k
  refine Ev.iast' (am_dt kX10_ringsOnce 14 rfl) f10 f11 (fun h12 eh12 => ?_)
  have k := k h12 eh12
  have f10 := kI eh12 f10
  refine Ev.aload_n 0 (am_dt kX10_ringsOnce 15 rfl) rfl rfl ?_
  obtain ⟨f13, k⟩ := k
  obtain ⟨f14, k⟩ := k
  refine Ev.getR (ci := 10) (k := 47) (am_dt kX10_ringsOnce 16 rfl) (by decide) (by decide) rfl wd_575 f13 f14 ?_
  refine Ev.aload_n 0 (am_dt kX10_ringsOnce 17 rfl) rfl rfl ?_
  refine Ev.getI (ci := 10) (k := 44) (am_dt kX10_ringsOnce 18 rfl) (by decide) (by decide) rfl wd_704 f13 ?_
  refine Ev.aload_n 0 (am_dt kX10_ringsOnce 19 rfl) rfl rfl ?_
  refine Ev.iconst (v := 1) (am_dt kX10_ringsOnce 20 rfl) (by decide) ?_
  refine Ev.iload_n 1 (am_dt kX10_ringsOnce 21 rfl) rfl rfl ?_
  refine Ev.callV (ci := 10) (v := mX10_leaves) (As := [.int 1, .int x1]) (st := [.int (hI h12 a0 44), .ref (hR h12 a0 47)]) okX10_leaves wd_724 wd_725 wd_726 (am_dt kX10_ringsOnce 22 rfl) (by decide) rfl rfl (Nat.le_of_ble_eq_true rfl) (Nat.le_of_ble_eq_true rfl) f13 ?_
  refine EvM.mono k (fun r16 h15 k => ?_)
  obtain ⟨v17, rfl, k⟩ := k
  show Ev w _ _ _ 39 _ [.int v17, .int (hI h12 a0 44), .ref (hR h12 a0 47)] _ _
  obtain ⟨f18, k⟩ := k
  obtain ⟨f19, k⟩ := k
  refine Ev.iast' (am_dt kX10_ringsOnce 23 rfl) f18 f19 (fun h20 eh20 => ?_)
  have k := k h20 eh20
  have f18 := kI eh20 f18
  refine Ev.aload_n 0 (am_dt kX10_ringsOnce 24 rfl) rfl rfl ?_
  refine Ev.dup (am_dt kX10_ringsOnce 25 rfl) rfl ?_
  obtain ⟨f21, k⟩ := k
  refine Ev.getI (ci := 10) (k := 44) (am_dt kX10_ringsOnce 26 rfl) (by decide) (by decide) rfl wd_704 f21 ?_
  refine Ev.iconst (v := 1) (am_dt kX10_ringsOnce 27 rfl) (by decide) ?_
  refine Ev.iadd (am_dt kX10_ringsOnce 28 rfl) ?_
  refine Ev.putI' (ci := 10) (k := 44) (am_dt kX10_ringsOnce 29 rfl) (by decide) (by decide) wd_704 rfl rfl rfl rfl f21 (fun h22 eh22 => ?_)
  have k := k h22 eh22
  have f18 := kI eh22 f18
  have f21 := kI eh22 f21
  refine Ev.aload_n 0 (am_dt kX10_ringsOnce 30 rfl) rfl rfl ?_
  refine Ev.getI (ci := 10) (k := 48) (am_dt kX10_ringsOnce 31 rfl) (by decide) (by decide) rfl wd_705 f21 ?_
  refine Ev.iload_n 1 (am_dt kX10_ringsOnce 32 rfl) rfl rfl ?_
  refine Ev.icmp_gt (tgt := 73) (am_dt kX10_ringsOnce 33 rfl) (by decide) (fun c => ?_) (fun c => ?_)
  · have k := k.1 c
    refine Ev.aload_n 0 (am_dt kX10_ringsOnce 43 rfl) rfl rfl ?_
    refine Ev.iload_n 1 (am_dt kX10_ringsOnce 44 rfl) rfl rfl ?_
    refine Ev.aload_n 0 (am_dt kX10_ringsOnce 45 rfl) rfl rfl ?_
    obtain ⟨f23, k⟩ := k
    refine Ev.getR (ci := 10) (k := 10) (am_dt kX10_ringsOnce 46 rfl) (by decide) (by decide) rfl wd_543 f21 f23 ?_
    refine Ev.iconst (v := 1) (am_dt kX10_ringsOnce 47 rfl) (by decide) ?_
    obtain ⟨f24, k⟩ := k
    obtain ⟨f25, k⟩ := k
    refine Ev.iald (am_dt kX10_ringsOnce 48 rfl) f24 f25 ?_
    refine Ev.iadd (am_dt kX10_ringsOnce 49 rfl) ?_
    refine Ev.putI' (ci := 10) (k := 49) (am_dt kX10_ringsOnce 50 rfl) (by decide) (by decide) wd_706 rfl rfl rfl rfl f21 (fun h26 eh26 => ?_)
    have k := k h26 eh26
    have f18 := kI eh26 f18
    have f21 := kI eh26 f21
    have f24 := kI eh26 f24
    exact Ev.vret (am_dt kX10_ringsOnce 51 rfl) rfl k
  · have k := k.2 c
    refine Ev.aload_n 0 (am_dt kX10_ringsOnce 34 rfl) rfl rfl ?_
    refine Ev.iload_n 1 (am_dt kX10_ringsOnce 35 rfl) rfl rfl ?_
    refine Ev.aload_n 0 (am_dt kX10_ringsOnce 36 rfl) rfl rfl ?_
    obtain ⟨f27, k⟩ := k
    refine Ev.getR (ci := 10) (k := 10) (am_dt kX10_ringsOnce 37 rfl) (by decide) (by decide) rfl wd_543 f21 f27 ?_
    refine Ev.iconst (v := 1) (am_dt kX10_ringsOnce 38 rfl) (by decide) ?_
    obtain ⟨f28, k⟩ := k
    obtain ⟨f29, k⟩ := k
    refine Ev.iald (am_dt kX10_ringsOnce 39 rfl) f28 f29 ?_
    refine Ev.iadd (am_dt kX10_ringsOnce 40 rfl) ?_
    refine Ev.putI' (ci := 10) (k := 48) (am_dt kX10_ringsOnce 41 rfl) (by decide) (by decide) wd_705 rfl rfl rfl rfl f21 (fun h30 eh30 => ?_)
    have k := k h30 eh30
    have f18 := kI eh30 f18
    have f21 := kI eh30 f21
    have f28 := kI eh30 f28
    refine Ev.goto (tgt := 85) (am_dt kX10_ringsOnce 42 rfl) (by decide) ?_
    exact Ev.vret (am_dt kX10_ringsOnce 51 rfl) rfl k
set_option maxRecDepth 20000 in
set_option maxHeartbeats 2000000 in
theorem bX10_goesOn_0 {w : am_W} {d : Nat} {h : am_H} {Q : Option Value → am_H → Prop} {a0 : Nat} {x1 : Int32} {x2 : Int32}  (k : Ev w (am_Z w) mX10_goesOn (d + 1) 2 [(0, .ref a0), (2, .int x2), (3, .int x1)] [] h Q) : EvM w mX10_goesOn (d + 1) [.ref a0, .int x1, .int x2] h Q := by
  show Ev w (am_Z w) mX10_goesOn (d + 1) 0 [(0, .ref a0), (1, .int x1), (2, .int x2)] [] h Q
  refine Ev.iload_n 1 (am_dt kX10_goesOn 0 rfl) rfl rfl ?_
  refine Ev.istore_n (lv' := [(3, .int x1), (0, .ref a0), (1, .int x1), (2, .int x2)]) (am_dt kX10_goesOn 1 rfl) rfl (by decide) rfl ?_
  exact Ev.sub [1, 3, 0] rfl k
set_option maxRecDepth 20000 in
set_option maxHeartbeats 2000000 in
theorem bX10_goesOn_2 {w : am_W} {d : Nat} {h : am_H} {Q : Option Value → am_H → Prop} {a0 : Nat} {x2 : Int32} {x3 : Int32}  (k : (x2 < x3 → (Q none h)) ∧ (¬ x2 < x3 → (Ev w (am_Z w) mX10_goesOn (d + 1) 7 [(0, .ref a0), (2, .int x2), (3, .int x3)] [] h Q))) : Ev w (am_Z w) mX10_goesOn (d + 1) 2 [(0, .ref a0), (2, .int x2), (3, .int x3)] [] h Q := by
  refine Ev.iload_n 2 (am_dt kX10_goesOn 2 rfl) rfl rfl ?_
  refine Ev.iload_n 1 (am_dt kX10_goesOn 3 rfl) rfl rfl ?_
  refine Ev.icmp_gt (tgt := 29) (am_dt kX10_goesOn 4 rfl) (by decide) (fun c => ?_) (fun c => ?_)
  · have k := k.1 c
    exact Ev.vret (am_dt kX10_goesOn 15 rfl) rfl k
  · have k := k.2 c
    exact k
set_option maxRecDepth 20000 in
set_option maxHeartbeats 2000000 in
theorem bX10_goesOn_7 {w : am_W} {d : Nat} {h : am_H} {Q : Option Value → am_H → Prop} {a0 : Nat} {x2 : Int32} {x3 : Int32}  (k : (hK h a0 = 10) ∧ (EvM w mX10_wouldRing d [.ref a0, .int x3] h (fun r3 h2 => ∃ v4 : Int32, r3 = some (.int v4) ∧ ((v4 = 0 → (Ev w (am_Z w) mX10_goesOn (d + 1) 2 [(0, .ref a0), (2, .int x2), (3, .int (x3 + 1))] [] h2 Q)) ∧ (¬ v4 = 0 → ((hK h2 a0 = 10) ∧ (EvM w mX10_ringsOnce d [.ref a0, .int x3] h2 (fun r7 h6 => r7 = none ∧ (Ev w (am_Z w) mX10_goesOn (d + 1) 7 [(0, .ref a0), (2, .int x2), (3, .int x3)] [] h6 Q))))))))) : Ev w (am_Z w) mX10_goesOn (d + 1) 7 [(0, .ref a0), (2, .int x2), (3, .int x3)] [] h Q := by
  refine Ev.aload_n 0 (am_dt kX10_goesOn 5 rfl) rfl rfl ?_
  refine Ev.iload_n 2 (am_dt kX10_goesOn 6 rfl) rfl rfl ?_
  obtain ⟨f1, k⟩ := k
  refine Ev.callV (ci := 10) (v := mX10_wouldRing) (As := [.int x3]) (st := []) okX10_wouldRing wd_727 wd_728 wd_729 (am_dt kX10_goesOn 7 rfl) (by decide) rfl rfl (Nat.le_of_ble_eq_true rfl) (Nat.le_of_ble_eq_true rfl) f1 ?_
  refine EvM.mono k (fun r3 h2 k => ?_)
  obtain ⟨v4, rfl, k⟩ := k
  show Ev w _ _ _ 12 _ [.int v4] _ _
  refine Ev.if_eq (tgt := 23) (am_dt kX10_goesOn 8 rfl) (by decide) (fun c => ?_) (fun c => ?_)
  · have k := k.1 c
    refine Ev.iinc (v := x3 + 1) (lv' := [(3, .int (x3 + 1)), (0, .ref a0), (2, .int x2)]) 2 (am_dt kX10_goesOn 13 rfl) rfl rfl (by decide) rfl ?_
    refine Ev.goto (tgt := 2) (am_dt kX10_goesOn 14 rfl) (by decide) ?_
    exact Ev.sub [1, 2, 0] rfl k
  · have k := k.2 c
    refine Ev.aload_n 0 (am_dt kX10_goesOn 9 rfl) rfl rfl ?_
    refine Ev.iload_n 2 (am_dt kX10_goesOn 10 rfl) rfl rfl ?_
    obtain ⟨f5, k⟩ := k
    refine Ev.callV (ci := 10) (v := mX10_ringsOnce) (As := [.int x3]) (st := []) okX10_ringsOnce wd_730 wd_731 wd_732 (am_dt kX10_goesOn 11 rfl) (by decide) rfl rfl (Nat.le_of_ble_eq_true rfl) (Nat.le_of_ble_eq_true rfl) f5 ?_
    refine EvM.mono k (fun r7 h6 k => ?_)
    obtain ⟨rfl, k⟩ := k
    show Ev w _ _ _ 20 _ [] _ _
    refine Ev.goto (tgt := 7) (am_dt kX10_goesOn 12 rfl) (by decide) ?_
    exact k
set_option maxRecDepth 20000 in
set_option maxHeartbeats 2000000 in
theorem bX10_day_0 {w : am_W} {d : Nat} {h : am_H} {Q : Option Value → am_H → Prop} {a0 : Nat} {x1 : Int32}  (k : (hK h a0 = 10) ∧ (EvM w mX10_tellsAll d [.ref a0, .int x1] h (fun r3 h2 => r3 = none ∧ ((hK h2 a0 = 10) ∧ (EvM w mX10_goesOn d [.ref a0, .int 0, .int 1439] h2 (fun r6 h5 => r6 = none ∧ (Q none h5))))))) : EvM w mX10_day (d + 1) [.ref a0, .int x1] h Q := by
  show Ev w (am_Z w) mX10_day (d + 1) 0 [(0, .ref a0), (1, .int x1)] [] h Q
  refine Ev.aload_n 0 (am_dt kX10_day 0 rfl) rfl rfl ?_
  refine Ev.iload_n 1 (am_dt kX10_day 1 rfl) rfl rfl ?_
  obtain ⟨f1, k⟩ := k
  refine Ev.callV (ci := 10) (v := mX10_tellsAll) (As := [.int x1]) (st := []) okX10_tellsAll wd_733 wd_734 wd_735 (am_dt kX10_day 2 rfl) (by decide) rfl rfl (Nat.le_of_ble_eq_true rfl) (Nat.le_of_ble_eq_true rfl) f1 ?_
  refine EvM.mono k (fun r3 h2 k => ?_)
  obtain ⟨rfl, k⟩ := k
  show Ev w _ _ _ 5 _ [] _ _
  refine Ev.aload_n 0 (am_dt kX10_day 3 rfl) rfl rfl ?_
  refine Ev.iconst (v := 0) (am_dt kX10_day 4 rfl) (by decide) ?_
  refine Ev.sipush (v := 1439) (am_dt kX10_day 5 rfl) (by decide) ?_
  obtain ⟨f4, k⟩ := k
  refine Ev.callV (ci := 10) (v := mX10_goesOn) (As := [.int 0, .int 1439]) (st := []) okX10_goesOn wd_736 wd_737 wd_738 (am_dt kX10_day 6 rfl) (by decide) rfl rfl (Nat.le_of_ble_eq_true rfl) (Nat.le_of_ble_eq_true rfl) f4 ?_
  refine EvM.mono k (fun r6 h5 k => ?_)
  obtain ⟨rfl, k⟩ := k
  show Ev w _ _ _ 13 _ [] _ _
  exact Ev.vret (am_dt kX10_day 7 rfl) rfl k
set_option maxRecDepth 20000 in
set_option maxHeartbeats 2000000 in
theorem bX10_waitOf_0 {w : am_W} {d : Nat} {h : am_H} {Q : Option Value → am_H → Prop} {a0 : Nat} {x1 : Int32}  (k : (hK h a0 = 10) ∧ ((hR h a0 42 ≠ 0) ∧ ((hK h (hR h a0 42) = 12) ∧ ((vp_in x1 (hN h (hR h a0 42))) ∧ ((0 ≤ (hI h (hR h a0 42) (Int32.toNatClampNeg x1)) → ((vp_in x1 (hN h (hR h a0 42))) ∧ ((hR h a0 38 ≠ 0) ∧ ((hK h (hR h a0 38) = 12) ∧ ((vp_in x1 (hN h (hR h a0 38))) ∧ (Q (some (.int ((hI h (hR h a0 42) (Int32.toNatClampNeg x1)) - (hI h (hR h a0 38) (Int32.toNatClampNeg x1))))) h)))))) ∧ (¬ 0 ≤ (hI h (hR h a0 42) (Int32.toNatClampNeg x1)) → ((hR h a0 38 ≠ 0) ∧ ((hK h (hR h a0 38) = 12) ∧ ((vp_in x1 (hN h (hR h a0 38))) ∧ (Q (some (.int (1440 - (hI h (hR h a0 38) (Int32.toNatClampNeg x1))))) h)))))))))) : EvM w mX10_waitOf d [.ref a0, .int x1] h Q := by
  show Ev w (am_Z w) mX10_waitOf d 0 [(0, .ref a0), (1, .int x1)] [] h Q
  refine Ev.aload_n 0 (am_dt kX10_waitOf 0 rfl) rfl rfl ?_
  obtain ⟨f1, k⟩ := k
  obtain ⟨f2, k⟩ := k
  refine Ev.getR (ci := 10) (k := 42) (am_dt kX10_waitOf 1 rfl) (by decide) (by decide) rfl wd_571 f1 f2 ?_
  refine Ev.iload_n 1 (am_dt kX10_waitOf 2 rfl) rfl rfl ?_
  obtain ⟨f3, k⟩ := k
  obtain ⟨f4, k⟩ := k
  refine Ev.iald (am_dt kX10_waitOf 3 rfl) f3 f4 ?_
  refine Ev.if_ge (tgt := 15) (am_dt kX10_waitOf 4 rfl) (by decide) (fun c => ?_) (fun c => ?_)
  · have k := k.1 c
    refine Ev.aload_n 0 (am_dt kX10_waitOf 7 rfl) rfl rfl ?_
    refine Ev.getR (ci := 10) (k := 42) (am_dt kX10_waitOf 8 rfl) (by decide) (by decide) rfl wd_571 f1 f2 ?_
    refine Ev.iload_n 1 (am_dt kX10_waitOf 9 rfl) rfl rfl ?_
    obtain ⟨f5, k⟩ := k
    refine Ev.iald (am_dt kX10_waitOf 10 rfl) f3 f5 ?_
    refine Ev.aload_n 0 (am_dt kX10_waitOf 11 rfl) rfl rfl ?_
    obtain ⟨f6, k⟩ := k
    refine Ev.getR (ci := 10) (k := 38) (am_dt kX10_waitOf 12 rfl) (by decide) (by decide) rfl wd_567 f1 f6 ?_
    refine Ev.iload_n 1 (am_dt kX10_waitOf 13 rfl) rfl rfl ?_
    obtain ⟨f7, k⟩ := k
    obtain ⟨f8, k⟩ := k
    refine Ev.iald (am_dt kX10_waitOf 14 rfl) f7 f8 ?_
    refine Ev.isub (am_dt kX10_waitOf 15 rfl) ?_
    exact Ev.iret .int (am_dt kX10_waitOf 16 rfl) rfl rfl k
  · have k := k.2 c
    refine Ev.sipush (v := 1440) (am_dt kX10_waitOf 5 rfl) (by decide) ?_
    refine Ev.goto (tgt := 21) (am_dt kX10_waitOf 6 rfl) (by decide) ?_
    refine Ev.aload_n 0 (am_dt kX10_waitOf 11 rfl) rfl rfl ?_
    obtain ⟨f9, k⟩ := k
    refine Ev.getR (ci := 10) (k := 38) (am_dt kX10_waitOf 12 rfl) (by decide) (by decide) rfl wd_567 f1 f9 ?_
    refine Ev.iload_n 1 (am_dt kX10_waitOf 13 rfl) rfl rfl ?_
    obtain ⟨f10, k⟩ := k
    obtain ⟨f11, k⟩ := k
    refine Ev.iald (am_dt kX10_waitOf 14 rfl) f10 f11 ?_
    refine Ev.isub (am_dt kX10_waitOf 15 rfl) ?_
    exact Ev.iret .int (am_dt kX10_waitOf 16 rfl) rfl rfl k
set_option maxRecDepth 20000 in
set_option maxHeartbeats 2000000 in
theorem bX10_costAll_0 {w : am_W} {d : Nat} {h : am_H} {Q : Option Value → am_H → Prop} {a0 : Nat} {x1 : Int32}  (k : Ev w (am_Z w) mX10_costAll (d + 1) 4 [(0, .ref a0), (1, .int x1), (2, .int 0), (3, .int 0)] [] h Q) : EvM w mX10_costAll (d + 1) [.ref a0, .int x1] h Q := by
  show Ev w (am_Z w) mX10_costAll (d + 1) 0 [(0, .ref a0), (1, .int x1)] [] h Q
  refine Ev.iconst (v := 0) (am_dt kX10_costAll 0 rfl) (by decide) ?_
  refine Ev.istore_n (lv' := [(2, .int 0), (0, .ref a0), (1, .int x1)]) (am_dt kX10_costAll 1 rfl) rfl (by decide) rfl ?_
  refine Ev.iconst (v := 0) (am_dt kX10_costAll 2 rfl) (by decide) ?_
  refine Ev.istore_n (lv' := [(3, .int 0), (2, .int 0), (0, .ref a0), (1, .int x1)]) (am_dt kX10_costAll 3 rfl) rfl (by decide) rfl ?_
  exact Ev.sub [2, 3, 1, 0] rfl k
set_option maxRecDepth 20000 in
set_option maxHeartbeats 2000000 in
theorem bX10_costAll_4 {w : am_W} {d : Nat} {h : am_H} {Q : Option Value → am_H → Prop} {a0 : Nat} {x1 : Int32} {x2 : Int32} {x3 : Int32}  (k : (hK h a0 = 10) ∧ (((hI h a0 36) ≤ x3 → (Q (some (.int x2)) h)) ∧ (¬ (hI h a0 36) ≤ x3 → ((x3 = x1 → (Ev w (am_Z w) mX10_costAll (d + 1) 4 [(0, .ref a0), (1, .int x1), (2, .int (x2 + 0)), (3, .int (x3 + 1))] [] h Q)) ∧ (¬ x3 = x1 → ((hR h a0 40 ≠ 0) ∧ ((hK h (hR h a0 40) = 12) ∧ ((vp_in x3 (hN h (hR h a0 40))) ∧ (EvM w mX10_waitOf d [.ref a0, .int x3] h (fun r6 h5 => ∃ v7 : Int32, r6 = some (.int v7) ∧ (Ev w (am_Z w) mX10_costAll (d + 1) 4 [(0, .ref a0), (1, .int x1), (2, .int (x2 + ((hI h (hR h a0 40) (Int32.toNatClampNeg x3)) * v7))), (3, .int (x3 + 1))] [] h5 Q))))))))))) : Ev w (am_Z w) mX10_costAll (d + 1) 4 [(0, .ref a0), (1, .int x1), (2, .int x2), (3, .int x3)] [] h Q := by
  refine Ev.iload_n 3 (am_dt kX10_costAll 4 rfl) rfl rfl ?_
  refine Ev.aload_n 0 (am_dt kX10_costAll 5 rfl) rfl rfl ?_
  obtain ⟨f1, k⟩ := k
  refine Ev.getI (ci := 10) (k := 36) (am_dt kX10_costAll 6 rfl) (by decide) (by decide) rfl wd_703 f1 ?_
  refine Ev.icmp_ge (tgt := 42) (am_dt kX10_costAll 7 rfl) (by decide) (fun c => ?_) (fun c => ?_)
  · have k := k.1 c
    refine Ev.iload_n 2 (am_dt kX10_costAll 26 rfl) rfl rfl ?_
    exact Ev.iret .int (am_dt kX10_costAll 27 rfl) rfl rfl k
  · have k := k.2 c
    refine Ev.iload_n 2 (am_dt kX10_costAll 8 rfl) rfl rfl ?_
    refine Ev.iload_n 3 (am_dt kX10_costAll 9 rfl) rfl rfl ?_
    refine Ev.iload_n 1 (am_dt kX10_costAll 10 rfl) rfl rfl ?_
    refine Ev.icmp_ne (tgt := 22) (am_dt kX10_costAll 11 rfl) (by decide) (fun c => ?_) (fun c => ?_)
    · have k := k.2 c
      refine Ev.aload_n 0 (am_dt kX10_costAll 14 rfl) rfl rfl ?_
      obtain ⟨f2, k⟩ := k
      refine Ev.getR (ci := 10) (k := 40) (am_dt kX10_costAll 15 rfl) (by decide) (by decide) rfl wd_569 f1 f2 ?_
      refine Ev.iload_n 3 (am_dt kX10_costAll 16 rfl) rfl rfl ?_
      obtain ⟨f3, k⟩ := k
      obtain ⟨f4, k⟩ := k
      refine Ev.iald (am_dt kX10_costAll 17 rfl) f3 f4 ?_
      refine Ev.aload_n 0 (am_dt kX10_costAll 18 rfl) rfl rfl ?_
      refine Ev.iload_n 3 (am_dt kX10_costAll 19 rfl) rfl rfl ?_
      refine Ev.callV (ci := 10) (v := mX10_waitOf) (As := [.int x3]) (st := [.int (hI h (hR h a0 40) (Int32.toNatClampNeg x3)), .int x2]) okX10_waitOf wd_739 wd_740 wd_741 (am_dt kX10_costAll 20 rfl) (by decide) rfl rfl (Nat.le_of_ble_eq_true rfl) (Nat.le_of_ble_eq_true rfl) f1 ?_
      refine EvM.mono k (fun r6 h5 k => ?_)
      obtain ⟨v7, rfl, k⟩ := k
      show Ev w _ _ _ 33 _ [.int v7, .int (hI h (hR h a0 40) (Int32.toNatClampNeg x3)), .int x2] _ _
      refine Ev.imul (am_dt kX10_costAll 21 rfl) ?_
      refine Ev.iadd (am_dt kX10_costAll 22 rfl) ?_
      refine Ev.istore_n (lv' := [(2, .int (x2 + ((hI h (hR h a0 40) (Int32.toNatClampNeg x3)) * v7))), (0, .ref a0), (1, .int x1), (3, .int x3)]) (am_dt kX10_costAll 23 rfl) rfl (by decide) rfl ?_
      refine Ev.iinc (v := x3 + 1) (lv' := [(3, .int (x3 + 1)), (2, .int (x2 + ((hI h (hR h a0 40) (Int32.toNatClampNeg x3)) * v7))), (0, .ref a0), (1, .int x1)]) 3 (am_dt kX10_costAll 24 rfl) rfl rfl (by decide) rfl ?_
      refine Ev.goto (tgt := 4) (am_dt kX10_costAll 25 rfl) (by decide) ?_
      exact Ev.sub [2, 3, 1, 0] rfl k
    · have k := k.1 c
      refine Ev.iconst (v := 0) (am_dt kX10_costAll 12 rfl) (by decide) ?_
      refine Ev.goto (tgt := 34) (am_dt kX10_costAll 13 rfl) (by decide) ?_
      refine Ev.iadd (am_dt kX10_costAll 22 rfl) ?_
      refine Ev.istore_n (lv' := [(2, .int (x2 + 0)), (0, .ref a0), (1, .int x1), (3, .int x3)]) (am_dt kX10_costAll 23 rfl) rfl (by decide) rfl ?_
      refine Ev.iinc (v := x3 + 1) (lv' := [(3, .int (x3 + 1)), (2, .int (x2 + 0)), (0, .ref a0), (1, .int x1)]) 3 (am_dt kX10_costAll 24 rfl) rfl rfl (by decide) rfl ?_
      refine Ev.goto (tgt := 4) (am_dt kX10_costAll 25 rfl) (by decide) ?_
      exact Ev.sub [2, 3, 1, 0] rfl k
set_option maxRecDepth 20000 in
set_option maxHeartbeats 2000000 in
theorem bX10_rings_0 {w : am_W} {d : Nat} {h : am_H} {Q : Option Value → am_H → Prop} {a0 : Nat}  (k : (hK h a0 = 10) ∧ (∀ h2 : am_H, h2 = sI h a0 0 0 → (EvM w mX10_day d [.ref a0, .int ((-1))] h2 (fun r4 h3 => r4 = none ∧ ((hK h3 a0 = 10) ∧ (Q (some (.int (hI h3 a0 44))) h3)))))) : EvM w mX10_rings (d + 1) [.ref a0] h Q := by
  show Ev w (am_Z w) mX10_rings (d + 1) 0 [(0, .ref a0)] [] h Q
  refine Ev.aload_n 0 (am_dt kX10_rings 0 rfl) rfl rfl ?_
  refine Ev.iconst (v := 0) (am_dt kX10_rings 1 rfl) (by decide) ?_
  obtain ⟨f1, k⟩ := k
  refine Ev.putI' (ci := 10) (k := 0) (am_dt kX10_rings 2 rfl) (by decide) (by decide) wd_583 rfl rfl rfl rfl f1 (fun h2 eh2 => ?_)
  have k := k h2 eh2
  have f1 := kI eh2 f1
  refine Ev.aload_n 0 (am_dt kX10_rings 3 rfl) rfl rfl ?_
  refine Ev.iconst (v := (-1)) (am_dt kX10_rings 4 rfl) (by decide) ?_
  refine Ev.callV (ci := 10) (v := mX10_day) (As := [.int ((-1))]) (st := []) okX10_day wd_742 wd_743 wd_744 (am_dt kX10_rings 5 rfl) (by decide) rfl rfl (Nat.le_of_ble_eq_true rfl) (Nat.le_of_ble_eq_true rfl) f1 ?_
  refine EvM.mono k (fun r4 h3 k => ?_)
  obtain ⟨rfl, k⟩ := k
  show Ev w _ _ _ 10 _ [] _ _
  refine Ev.aload_n 0 (am_dt kX10_rings 6 rfl) rfl rfl ?_
  obtain ⟨f5, k⟩ := k
  refine Ev.getI (ci := 10) (k := 44) (am_dt kX10_rings 7 rfl) (by decide) (by decide) rfl wd_704 f5 ?_
  exact Ev.iret .int (am_dt kX10_rings 8 rfl) rfl rfl k
set_option maxRecDepth 20000 in
set_option maxHeartbeats 2000000 in
theorem bX10_ring_0 {w : am_W} {d : Nat} {h : am_H} {Q : Option Value → am_H → Prop} {a0 : Nat} {x1 : Int32} {x2 : Int32}  (k : (hK h a0 = 10) ∧ (∀ h2 : am_H, h2 = sI h a0 0 0 → (EvM w mX10_day d [.ref a0, .int ((-1))] h2 (fun r4 h3 => r4 = none ∧ ((x1 < 0 → (Q (some (.int ((-1)))) h3)) ∧ (¬ x1 < 0 → ((hK h3 a0 = 10) ∧ (((hI h3 a0 44) ≤ x1 → (Q (some (.int ((-1)))) h3)) ∧ (¬ (hI h3 a0 44) ≤ x1 → (EvM w mX10_within d [.int x2, .int 0, .int 2] h3 (fun r7 h6 => ∃ v8 : Int32, r7 = some (.int v8) ∧ ((v8 = 0 → (Q (some (.int ((-1)))) h6)) ∧ (¬ v8 = 0 → ((x2 = 0 → ((hK h6 a0 = 10) ∧ ((hR h6 a0 45 ≠ 0) ∧ ((hK h6 (hR h6 a0 45) = 12) ∧ ((vp_in x1 (hN h6 (hR h6 a0 45))) ∧ (Q (some (.int (hI h6 (hR h6 a0 45) (Int32.toNatClampNeg x1)))) h6)))))) ∧ (¬ x2 = 0 → ((x2 = 1 → ((hK h6 a0 = 10) ∧ ((hR h6 a0 46 ≠ 0) ∧ ((hK h6 (hR h6 a0 46) = 12) ∧ ((vp_in x1 (hN h6 (hR h6 a0 46))) ∧ (Q (some (.int (hI h6 (hR h6 a0 46) (Int32.toNatClampNeg x1)))) h6)))))) ∧ (¬ x2 = 1 → ((hK h6 a0 = 10) ∧ ((hR h6 a0 47 ≠ 0) ∧ ((hK h6 (hR h6 a0 47) = 12) ∧ ((vp_in x1 (hN h6 (hR h6 a0 47))) ∧ (Q (some (.int (hI h6 (hR h6 a0 47) (Int32.toNatClampNeg x1)))) h6)))))))))))))))))))))) : EvM w mX10_ring (d + 1) [.ref a0, .int x1, .int x2] h Q := by
  show Ev w (am_Z w) mX10_ring (d + 1) 0 [(0, .ref a0), (1, .int x1), (2, .int x2)] [] h Q
  refine Ev.aload_n 0 (am_dt kX10_ring 0 rfl) rfl rfl ?_
  refine Ev.iconst (v := 0) (am_dt kX10_ring 1 rfl) (by decide) ?_
  obtain ⟨f1, k⟩ := k
  refine Ev.putI' (ci := 10) (k := 0) (am_dt kX10_ring 2 rfl) (by decide) (by decide) wd_583 rfl rfl rfl rfl f1 (fun h2 eh2 => ?_)
  have k := k h2 eh2
  have f1 := kI eh2 f1
  refine Ev.aload_n 0 (am_dt kX10_ring 3 rfl) rfl rfl ?_
  refine Ev.iconst (v := (-1)) (am_dt kX10_ring 4 rfl) (by decide) ?_
  refine Ev.callV (ci := 10) (v := mX10_day) (As := [.int ((-1))]) (st := []) okX10_day wd_742 wd_743 wd_744 (am_dt kX10_ring 5 rfl) (by decide) rfl rfl (Nat.le_of_ble_eq_true rfl) (Nat.le_of_ble_eq_true rfl) f1 ?_
  refine EvM.mono k (fun r4 h3 k => ?_)
  obtain ⟨rfl, k⟩ := k
  show Ev w _ _ _ 10 _ [] _ _
  refine Ev.iload_n 1 (am_dt kX10_ring 6 rfl) rfl rfl ?_
  refine Ev.if_lt (tgt := 31) (am_dt kX10_ring 7 rfl) (by decide) (fun c => ?_) (fun c => ?_)
  · have k := k.1 c
    refine Ev.iconst (v := (-1)) (am_dt kX10_ring 17 rfl) (by decide) ?_
    exact Ev.iret .int (am_dt kX10_ring 18 rfl) rfl rfl k
  · have k := k.2 c
    refine Ev.iload_n 1 (am_dt kX10_ring 8 rfl) rfl rfl ?_
    refine Ev.aload_n 0 (am_dt kX10_ring 9 rfl) rfl rfl ?_
    obtain ⟨f5, k⟩ := k
    refine Ev.getI (ci := 10) (k := 44) (am_dt kX10_ring 10 rfl) (by decide) (by decide) rfl wd_704 f5 ?_
    refine Ev.icmp_ge (tgt := 31) (am_dt kX10_ring 11 rfl) (by decide) (fun c => ?_) (fun c => ?_)
    · have k := k.1 c
      refine Ev.iconst (v := (-1)) (am_dt kX10_ring 17 rfl) (by decide) ?_
      exact Ev.iret .int (am_dt kX10_ring 18 rfl) rfl rfl k
    · have k := k.2 c
      refine Ev.iload_n 2 (am_dt kX10_ring 12 rfl) rfl rfl ?_
      refine Ev.iconst (v := 0) (am_dt kX10_ring 13 rfl) (by decide) ?_
      refine Ev.iconst (v := 2) (am_dt kX10_ring 14 rfl) (by decide) ?_
      refine Ev.callS (v := mX10_within) (As := [.int x2, .int 0, .int 2]) (st := []) okX10_within wd_653 wd_652 (am_dt kX10_ring 15 rfl) rfl rfl (Nat.le_of_ble_eq_true rfl) (Nat.le_of_ble_eq_true rfl) ?_
      refine EvM.mono k (fun r7 h6 k => ?_)
      obtain ⟨v8, rfl, k⟩ := k
      show Ev w _ _ _ 28 _ [.int v8] _ _
      refine Ev.if_ne (tgt := 33) (am_dt kX10_ring 16 rfl) (by decide) (fun c => ?_) (fun c => ?_)
      · have k := k.2 c
        refine Ev.iload_n 2 (am_dt kX10_ring 19 rfl) rfl rfl ?_
        refine Ev.if_ne (tgt := 46) (am_dt kX10_ring 20 rfl) (by decide) (fun c => ?_) (fun c => ?_)
        · have k := k.2 c
          refine Ev.iload_n 2 (am_dt kX10_ring 26 rfl) rfl rfl ?_
          refine Ev.iconst (v := 1) (am_dt kX10_ring 27 rfl) (by decide) ?_
          refine Ev.icmp_ne (tgt := 60) (am_dt kX10_ring 28 rfl) (by decide) (fun c => ?_) (fun c => ?_)
          · have k := k.2 c
            refine Ev.aload_n 0 (am_dt kX10_ring 34 rfl) rfl rfl ?_
            obtain ⟨f17, k⟩ := k
            obtain ⟨f18, k⟩ := k
            refine Ev.getR (ci := 10) (k := 47) (am_dt kX10_ring 35 rfl) (by decide) (by decide) rfl wd_575 f17 f18 ?_
            refine Ev.iload_n 1 (am_dt kX10_ring 36 rfl) rfl rfl ?_
            obtain ⟨f19, k⟩ := k
            obtain ⟨f20, k⟩ := k
            refine Ev.iald (am_dt kX10_ring 37 rfl) f19 f20 ?_
            exact Ev.iret .int (am_dt kX10_ring 38 rfl) rfl rfl k
          · have k := k.1 c
            refine Ev.aload_n 0 (am_dt kX10_ring 29 rfl) rfl rfl ?_
            obtain ⟨f13, k⟩ := k
            obtain ⟨f14, k⟩ := k
            refine Ev.getR (ci := 10) (k := 46) (am_dt kX10_ring 30 rfl) (by decide) (by decide) rfl wd_574 f13 f14 ?_
            refine Ev.iload_n 1 (am_dt kX10_ring 31 rfl) rfl rfl ?_
            obtain ⟨f15, k⟩ := k
            obtain ⟨f16, k⟩ := k
            refine Ev.iald (am_dt kX10_ring 32 rfl) f15 f16 ?_
            refine Ev.goto (tgt := 66) (am_dt kX10_ring 33 rfl) (by decide) ?_
            exact Ev.iret .int (am_dt kX10_ring 38 rfl) rfl rfl k
        · have k := k.1 c
          refine Ev.aload_n 0 (am_dt kX10_ring 21 rfl) rfl rfl ?_
          obtain ⟨f9, k⟩ := k
          obtain ⟨f10, k⟩ := k
          refine Ev.getR (ci := 10) (k := 45) (am_dt kX10_ring 22 rfl) (by decide) (by decide) rfl wd_573 f9 f10 ?_
          refine Ev.iload_n 1 (am_dt kX10_ring 23 rfl) rfl rfl ?_
          obtain ⟨f11, k⟩ := k
          obtain ⟨f12, k⟩ := k
          refine Ev.iald (am_dt kX10_ring 24 rfl) f11 f12 ?_
          refine Ev.goto (tgt := 66) (am_dt kX10_ring 25 rfl) (by decide) ?_
          exact Ev.iret .int (am_dt kX10_ring 38 rfl) rfl rfl k
      · have k := k.1 c
        refine Ev.iconst (v := (-1)) (am_dt kX10_ring 17 rfl) (by decide) ?_
        exact Ev.iret .int (am_dt kX10_ring 18 rfl) rfl rfl k
set_option maxRecDepth 20000 in
set_option maxHeartbeats 2000000 in
theorem bX10_waits_0 {w : am_W} {d : Nat} {h : am_H} {Q : Option Value → am_H → Prop} {a0 : Nat} {x1 : Int32} {x2 : Int32}  (k : (hK h a0 = 10) ∧ (∀ h2 : am_H, h2 = sI h a0 0 0 → (EvM w mX10_isPerson d [.ref a0, .int x1] h2 (fun r4 h3 => ∃ v5 : Int32, r4 = some (.int v5) ∧ ((v5 = 0 → (Q (some (.int ((-1)))) h3)) ∧ (¬ v5 = 0 → (EvM w mX10_within d [.int x2, .int 0, .int 1] h3 (fun r7 h6 => ∃ v8 : Int32, r7 = some (.int v8) ∧ ((v8 = 0 → (Q (some (.int ((-1)))) h6)) ∧ (¬ v8 = 0 → ((hK h6 a0 = 10) ∧ (EvM w mX10_day d [.ref a0, .int ((-1))] h6 (fun r11 h10 => r11 = none ∧ ((x2 = 0 → ((hK h10 a0 = 10) ∧ (EvM w mX10_waitOf d [.ref a0, .int x1] h10 (fun r14 h13 => ∃ v15 : Int32, r14 = some (.int v15) ∧ (Q (some (.int v15)) h13))))) ∧ (¬ x2 = 0 → ((hK h10 a0 = 10) ∧ ((hR h10 a0 43 ≠ 0) ∧ ((hK h10 (hR h10 a0 43) = 12) ∧ ((vp_in x1 (hN h10 (hR h10 a0 43))) ∧ (Q (some (.int (hI h10 (hR h10 a0 43) (Int32.toNatClampNeg x1)))) h10)))))))))))))))))))) : EvM w mX10_waits (d + 1) [.ref a0, .int x1, .int x2] h Q := by
  show Ev w (am_Z w) mX10_waits (d + 1) 0 [(0, .ref a0), (1, .int x1), (2, .int x2)] [] h Q
  refine Ev.aload_n 0 (am_dt kX10_waits 0 rfl) rfl rfl ?_
  refine Ev.iconst (v := 0) (am_dt kX10_waits 1 rfl) (by decide) ?_
  obtain ⟨f1, k⟩ := k
  refine Ev.putI' (ci := 10) (k := 0) (am_dt kX10_waits 2 rfl) (by decide) (by decide) wd_583 rfl rfl rfl rfl f1 (fun h2 eh2 => ?_)
  have k := k h2 eh2
  have f1 := kI eh2 f1
  refine Ev.aload_n 0 (am_dt kX10_waits 3 rfl) rfl rfl ?_
  refine Ev.iload_n 1 (am_dt kX10_waits 4 rfl) rfl rfl ?_
  refine Ev.callV (ci := 10) (v := mX10_isPerson) (As := [.int x1]) (st := []) okX10_isPerson wd_698 wd_699 wd_700 (am_dt kX10_waits 5 rfl) (by decide) rfl rfl (Nat.le_of_ble_eq_true rfl) (Nat.le_of_ble_eq_true rfl) f1 ?_
  refine EvM.mono k (fun r4 h3 k => ?_)
  obtain ⟨v5, rfl, k⟩ := k
  show Ev w _ _ _ 10 _ [.int v5] _ _
  refine Ev.if_eq (tgt := 22) (am_dt kX10_waits 6 rfl) (by decide) (fun c => ?_) (fun c => ?_)
  · have k := k.1 c
    refine Ev.iconst (v := (-1)) (am_dt kX10_waits 12 rfl) (by decide) ?_
    exact Ev.iret .int (am_dt kX10_waits 13 rfl) rfl rfl k
  · have k := k.2 c
    refine Ev.iload_n 2 (am_dt kX10_waits 7 rfl) rfl rfl ?_
    refine Ev.iconst (v := 0) (am_dt kX10_waits 8 rfl) (by decide) ?_
    refine Ev.iconst (v := 1) (am_dt kX10_waits 9 rfl) (by decide) ?_
    refine Ev.callS (v := mX10_within) (As := [.int x2, .int 0, .int 1]) (st := []) okX10_within wd_653 wd_652 (am_dt kX10_waits 10 rfl) rfl rfl (Nat.le_of_ble_eq_true rfl) (Nat.le_of_ble_eq_true rfl) ?_
    refine EvM.mono k (fun r7 h6 k => ?_)
    obtain ⟨v8, rfl, k⟩ := k
    show Ev w _ _ _ 19 _ [.int v8] _ _
    refine Ev.if_ne (tgt := 24) (am_dt kX10_waits 11 rfl) (by decide) (fun c => ?_) (fun c => ?_)
    · have k := k.2 c
      refine Ev.aload_n 0 (am_dt kX10_waits 14 rfl) rfl rfl ?_
      refine Ev.iconst (v := (-1)) (am_dt kX10_waits 15 rfl) (by decide) ?_
      obtain ⟨f9, k⟩ := k
      refine Ev.callV (ci := 10) (v := mX10_day) (As := [.int ((-1))]) (st := []) okX10_day wd_742 wd_743 wd_744 (am_dt kX10_waits 16 rfl) (by decide) rfl rfl (Nat.le_of_ble_eq_true rfl) (Nat.le_of_ble_eq_true rfl) f9 ?_
      refine EvM.mono k (fun r11 h10 k => ?_)
      obtain ⟨rfl, k⟩ := k
      show Ev w _ _ _ 29 _ [] _ _
      refine Ev.iload_n 2 (am_dt kX10_waits 17 rfl) rfl rfl ?_
      refine Ev.if_ne (tgt := 41) (am_dt kX10_waits 18 rfl) (by decide) (fun c => ?_) (fun c => ?_)
      · have k := k.2 c
        refine Ev.aload_n 0 (am_dt kX10_waits 23 rfl) rfl rfl ?_
        obtain ⟨f16, k⟩ := k
        obtain ⟨f17, k⟩ := k
        refine Ev.getR (ci := 10) (k := 43) (am_dt kX10_waits 24 rfl) (by decide) (by decide) rfl wd_572 f16 f17 ?_
        refine Ev.iload_n 1 (am_dt kX10_waits 25 rfl) rfl rfl ?_
        obtain ⟨f18, k⟩ := k
        obtain ⟨f19, k⟩ := k
        refine Ev.iald (am_dt kX10_waits 26 rfl) f18 f19 ?_
        exact Ev.iret .int (am_dt kX10_waits 27 rfl) rfl rfl k
      · have k := k.1 c
        refine Ev.aload_n 0 (am_dt kX10_waits 19 rfl) rfl rfl ?_
        refine Ev.iload_n 1 (am_dt kX10_waits 20 rfl) rfl rfl ?_
        obtain ⟨f12, k⟩ := k
        refine Ev.callV (ci := 10) (v := mX10_waitOf) (As := [.int x1]) (st := []) okX10_waitOf wd_739 wd_740 wd_741 (am_dt kX10_waits 21 rfl) (by decide) rfl rfl (Nat.le_of_ble_eq_true rfl) (Nat.le_of_ble_eq_true rfl) f12 ?_
        refine EvM.mono k (fun r14 h13 k => ?_)
        obtain ⟨v15, rfl, k⟩ := k
        show Ev w _ _ _ 38 _ [.int v15] _ _
        refine Ev.goto (tgt := 47) (am_dt kX10_waits 22 rfl) (by decide) ?_
        exact Ev.iret .int (am_dt kX10_waits 27 rfl) rfl rfl k
    · have k := k.1 c
      refine Ev.iconst (v := (-1)) (am_dt kX10_waits 12 rfl) (by decide) ?_
      exact Ev.iret .int (am_dt kX10_waits 13 rfl) rfl rfl k
set_option maxRecDepth 20000 in
set_option maxHeartbeats 2000000 in
theorem bX10_all_0 {w : am_W} {d : Nat} {h : am_H} {Q : Option Value → am_H → Prop} {a0 : Nat} {x1 : Int32}  (k : (hK h a0 = 10) ∧ (∀ h2 : am_H, h2 = sI h a0 0 0 → (EvM w mX10_within d [.int x1, .int 0, .int 2] h2 (fun r4 h3 => ∃ v5 : Int32, r4 = some (.int v5) ∧ ((v5 = 0 → (Q (some (.int ((-1)))) h3)) ∧ (¬ v5 = 0 → ((hK h3 a0 = 10) ∧ (EvM w mX10_day d [.ref a0, .int ((-1))] h3 (fun r8 h7 => r8 = none ∧ ((x1 = 0 → ((hK h7 a0 = 10) ∧ (EvM w mX10_costAll d [.ref a0, .int ((-1))] h7 (fun r11 h10 => ∃ v12 : Int32, r11 = some (.int v12) ∧ (Q (some (.int v12)) h10))))) ∧ (¬ x1 = 0 → (Ev w (am_Z w) mX10_all (d + 1) 38 [(0, .ref a0), (1, .int x1), (2, .int 0), (3, .int 0), (4, .int 0)] [] h7 Q)))))))))))) : EvM w mX10_all (d + 1) [.ref a0, .int x1] h Q := by
  show Ev w (am_Z w) mX10_all (d + 1) 0 [(0, .ref a0), (1, .int x1)] [] h Q
  refine Ev.aload_n 0 (am_dt kX10_all 0 rfl) rfl rfl ?_
  refine Ev.iconst (v := 0) (am_dt kX10_all 1 rfl) (by decide) ?_
  obtain ⟨f1, k⟩ := k
  refine Ev.putI' (ci := 10) (k := 0) (am_dt kX10_all 2 rfl) (by decide) (by decide) wd_583 rfl rfl rfl rfl f1 (fun h2 eh2 => ?_)
  have k := k h2 eh2
  have f1 := kI eh2 f1
  refine Ev.iload_n 1 (am_dt kX10_all 3 rfl) rfl rfl ?_
  refine Ev.iconst (v := 0) (am_dt kX10_all 4 rfl) (by decide) ?_
  refine Ev.iconst (v := 2) (am_dt kX10_all 5 rfl) (by decide) ?_
  refine Ev.callS (v := mX10_within) (As := [.int x1, .int 0, .int 2]) (st := []) okX10_within wd_653 wd_652 (am_dt kX10_all 6 rfl) rfl rfl (Nat.le_of_ble_eq_true rfl) (Nat.le_of_ble_eq_true rfl) ?_
  refine EvM.mono k (fun r4 h3 k => ?_)
  obtain ⟨v5, rfl, k⟩ := k
  show Ev w _ _ _ 11 _ [.int v5] _ _
  refine Ev.if_ne (tgt := 16) (am_dt kX10_all 7 rfl) (by decide) (fun c => ?_) (fun c => ?_)
  · have k := k.2 c
    refine Ev.aload_n 0 (am_dt kX10_all 10 rfl) rfl rfl ?_
    refine Ev.iconst (v := (-1)) (am_dt kX10_all 11 rfl) (by decide) ?_
    obtain ⟨f6, k⟩ := k
    refine Ev.callV (ci := 10) (v := mX10_day) (As := [.int ((-1))]) (st := []) okX10_day wd_742 wd_743 wd_744 (am_dt kX10_all 12 rfl) (by decide) rfl rfl (Nat.le_of_ble_eq_true rfl) (Nat.le_of_ble_eq_true rfl) f6 ?_
    refine EvM.mono k (fun r8 h7 k => ?_)
    obtain ⟨rfl, k⟩ := k
    show Ev w _ _ _ 21 _ [] _ _
    refine Ev.iload_n 1 (am_dt kX10_all 13 rfl) rfl rfl ?_
    refine Ev.if_ne (tgt := 31) (am_dt kX10_all 14 rfl) (by decide) (fun c => ?_) (fun c => ?_)
    · have k := k.2 c
      refine Ev.iconst (v := 0) (am_dt kX10_all 19 rfl) (by decide) ?_
      refine Ev.istore_n (lv' := [(2, .int 0), (0, .ref a0), (1, .int x1)]) (am_dt kX10_all 20 rfl) rfl (by decide) rfl ?_
      refine Ev.iconst (v := 0) (am_dt kX10_all 21 rfl) (by decide) ?_
      refine Ev.istore_n (lv' := [(3, .int 0), (2, .int 0), (0, .ref a0), (1, .int x1)]) (am_dt kX10_all 22 rfl) rfl (by decide) rfl ?_
      refine Ev.iconst (v := 0) (am_dt kX10_all 23 rfl) (by decide) ?_
      refine Ev.istore (lv' := [(4, .int 0), (3, .int 0), (2, .int 0), (0, .ref a0), (1, .int x1)]) (am_dt kX10_all 24 rfl) (by decide) rfl ?_
      exact Ev.sub [3, 4, 2, 1, 0] rfl k
    · have k := k.1 c
      refine Ev.aload_n 0 (am_dt kX10_all 15 rfl) rfl rfl ?_
      refine Ev.iconst (v := (-1)) (am_dt kX10_all 16 rfl) (by decide) ?_
      obtain ⟨f9, k⟩ := k
      refine Ev.callV (ci := 10) (v := mX10_costAll) (As := [.int ((-1))]) (st := []) okX10_costAll wd_745 wd_746 wd_747 (am_dt kX10_all 17 rfl) (by decide) rfl rfl (Nat.le_of_ble_eq_true rfl) (Nat.le_of_ble_eq_true rfl) f9 ?_
      refine EvM.mono k (fun r11 h10 k => ?_)
      obtain ⟨v12, rfl, k⟩ := k
      show Ev w _ _ _ 30 _ [.int v12] _ _
      exact Ev.iret .int (am_dt kX10_all 18 rfl) rfl rfl k
  · have k := k.1 c
    refine Ev.iconst (v := (-1)) (am_dt kX10_all 8 rfl) (by decide) ?_
    exact Ev.iret .int (am_dt kX10_all 9 rfl) rfl rfl k
set_option maxRecDepth 20000 in
set_option maxHeartbeats 2000000 in
theorem bX10_all_38 {w : am_W} {d : Nat} {h : am_H} {Q : Option Value → am_H → Prop} {a0 : Nat} {x1 : Int32} {x2 : Int32} {x3 : Int32} {x4 : Int32}  (k : (hK h a0 = 10) ∧ (((hI h a0 36) ≤ x4 → ((x1 = 1 → (Q (some (.int x2)) h)) ∧ (¬ x1 = 1 → (Q (some (.int x3)) h)))) ∧ (¬ (hI h a0 36) ≤ x4 → (EvM w mX10_waitOf d [.ref a0, .int x4] h (fun r3 h2 => ∃ v4 : Int32, r3 = some (.int v4) ∧ ((hK h2 a0 = 10) ∧ ((hR h2 a0 42 ≠ 0) ∧ ((hK h2 (hR h2 a0 42) = 12) ∧ ((vp_in x4 (hN h2 (hR h2 a0 42))) ∧ ((0 ≤ (hI h2 (hR h2 a0 42) (Int32.toNatClampNeg x4)) → (Ev w (am_Z w) mX10_all (d + 1) 38 [(0, .ref a0), (1, .int x1), (2, .int (if x2 < v4 then v4 else x2)), (3, .int (x3 ||| 0)), (4, .int (x4 + 1))] [] h2 Q)) ∧ (¬ 0 ≤ (hI h2 (hR h2 a0 42) (Int32.toNatClampNeg x4)) → (Ev w (am_Z w) mX10_all (d + 1) 38 [(0, .ref a0), (1, .int x1), (2, .int (if x2 < v4 then v4 else x2)), (3, .int (x3 ||| ((1 : Int32) <<< (x4 &&& 31)))), (4, .int (x4 + 1))] [] h2 Q)))))))))))) : Ev w (am_Z w) mX10_all (d + 1) 38 [(0, .ref a0), (1, .int x1), (2, .int x2), (3, .int x3), (4, .int x4)] [] h Q := by
  refine Ev.iload 4 (am_dt kX10_all 25 rfl) rfl ?_
  refine Ev.aload_n 0 (am_dt kX10_all 26 rfl) rfl rfl ?_
  obtain ⟨f1, k⟩ := k
  refine Ev.getI (ci := 10) (k := 36) (am_dt kX10_all 27 rfl) (by decide) (by decide) rfl wd_703 f1 ?_
  refine Ev.icmp_ge (tgt := 85) (am_dt kX10_all 28 rfl) (by decide) (fun c => ?_) (fun c => ?_)
  · have k := k.1 c
    refine Ev.iload_n 1 (am_dt kX10_all 50 rfl) rfl rfl ?_
    refine Ev.iconst (v := 1) (am_dt kX10_all 51 rfl) (by decide) ?_
    refine Ev.icmp_ne (tgt := 94) (am_dt kX10_all 52 rfl) (by decide) (fun c => ?_) (fun c => ?_)
    · have k := k.2 c
      refine Ev.iload_n 3 (am_dt kX10_all 55 rfl) rfl rfl ?_
      exact Ev.iret .int (am_dt kX10_all 56 rfl) rfl rfl k
    · have k := k.1 c
      refine Ev.iload_n 2 (am_dt kX10_all 53 rfl) rfl rfl ?_
      refine Ev.goto (tgt := 95) (am_dt kX10_all 54 rfl) (by decide) ?_
      exact Ev.iret .int (am_dt kX10_all 56 rfl) rfl rfl k
  · have k := k.2 c
    refine Ev.iload_n 2 (am_dt kX10_all 29 rfl) rfl rfl ?_
    refine Ev.aload_n 0 (am_dt kX10_all 30 rfl) rfl rfl ?_
    refine Ev.iload 4 (am_dt kX10_all 31 rfl) rfl ?_
    refine Ev.callV (ci := 10) (v := mX10_waitOf) (As := [.int x4]) (st := [.int x2]) okX10_waitOf wd_739 wd_740 wd_741 (am_dt kX10_all 32 rfl) (by decide) rfl rfl (Nat.le_of_ble_eq_true rfl) (Nat.le_of_ble_eq_true rfl) f1 ?_
    refine EvM.mono k (fun r3 h2 k => ?_)
    obtain ⟨v4, rfl, k⟩ := k
    show Ev w _ _ _ 54 _ [.int v4, .int x2] _ _
    refine Ev.mmax wd_665 wd_5 wd_6 wd_7 (am_dt kX10_all 33 rfl) (Nat.le_of_ble_eq_true rfl) ?_
    refine Ev.istore_n (lv' := [(2, .int (if x2 < v4 then v4 else x2)), (0, .ref a0), (1, .int x1), (3, .int x3), (4, .int x4)]) (am_dt kX10_all 34 rfl) rfl (by decide) rfl ?_
    refine Ev.iload_n 3 (am_dt kX10_all 35 rfl) rfl rfl ?_
    refine Ev.aload_n 1 (am_dt kX10_all 36 rfl) rfl rfl ?_
    obtain ⟨f5, k⟩ := k
    obtain ⟨f6, k⟩ := k
    refine Ev.getR (ci := 10) (k := 42) (am_dt kX10_all 37 rfl) (by decide) (by decide) rfl wd_571 f5 f6 ?_
    refine Ev.iload 4 (am_dt kX10_all 38 rfl) rfl ?_
    obtain ⟨f7, k⟩ := k
    obtain ⟨f8, k⟩ := k
    refine Ev.iald (am_dt kX10_all 39 rfl) f7 f8 ?_
    refine Ev.if_ge (tgt := 76) (am_dt kX10_all 40 rfl) (by decide) (fun c => ?_) (fun c => ?_)
    · have k := k.1 c
      refine Ev.iconst (v := 0) (am_dt kX10_all 45 rfl) (by decide) ?_
      refine Ev.ior (am_dt kX10_all 46 rfl) ?_
      refine Ev.istore_n (lv' := [(3, .int (x3 ||| 0)), (2, .int (if x2 < v4 then v4 else x2)), (0, .ref a0), (1, .int x1), (4, .int x4)]) (am_dt kX10_all 47 rfl) rfl (by decide) rfl ?_
      refine Ev.iinc (v := x4 + 1) (lv' := [(4, .int (x4 + 1)), (3, .int (x3 ||| 0)), (2, .int (if x2 < v4 then v4 else x2)), (0, .ref a0), (1, .int x1)]) 4 (am_dt kX10_all 48 rfl) rfl rfl (by decide) rfl ?_
      refine Ev.goto (tgt := 38) (am_dt kX10_all 49 rfl) (by decide) ?_
      exact Ev.sub [3, 4, 2, 1, 0] rfl k
    · have k := k.2 c
      refine Ev.iconst (v := 1) (am_dt kX10_all 41 rfl) (by decide) ?_
      refine Ev.iload 4 (am_dt kX10_all 42 rfl) rfl ?_
      refine Ev.ishl (am_dt kX10_all 43 rfl) ?_
      refine Ev.goto (tgt := 77) (am_dt kX10_all 44 rfl) (by decide) ?_
      refine Ev.ior (am_dt kX10_all 46 rfl) ?_
      refine Ev.istore_n (lv' := [(3, .int (x3 ||| ((1 : Int32) <<< (x4 &&& 31)))), (2, .int (if x2 < v4 then v4 else x2)), (0, .ref a0), (1, .int x1), (4, .int x4)]) (am_dt kX10_all 47 rfl) rfl (by decide) rfl ?_
      refine Ev.iinc (v := x4 + 1) (lv' := [(4, .int (x4 + 1)), (3, .int (x3 ||| ((1 : Int32) <<< (x4 &&& 31)))), (2, .int (if x2 < v4 then v4 else x2)), (0, .ref a0), (1, .int x1)]) 4 (am_dt kX10_all 48 rfl) rfl rfl (by decide) rfl ?_
      refine Ev.goto (tgt := 38) (am_dt kX10_all 49 rfl) (by decide) ?_
      exact Ev.sub [3, 4, 2, 1, 0] rfl k
set_option maxRecDepth 20000 in
set_option maxHeartbeats 2000000 in
theorem bX10_waitsBehind_0 {w : am_W} {d : Nat} {h : am_H} {Q : Option Value → am_H → Prop} {a0 : Nat} {x1 : Int32} {x2 : Int32}  (k : (hK h a0 = 10) ∧ ((hR h a0 38 ≠ 0) ∧ ((hK h (hR h a0 38) = 12) ∧ ((vp_in x1 (hN h (hR h a0 38))) ∧ ((x2 < (hI h (hR h a0 38) (Int32.toNatClampNeg x1)) → (Q (some (.int 0)) h)) ∧ (¬ x2 < (hI h (hR h a0 38) (Int32.toNatClampNeg x1)) → ((hR h a0 42 ≠ 0) ∧ ((hK h (hR h a0 42) = 12) ∧ ((vp_in x1 (hN h (hR h a0 42))) ∧ (((hI h (hR h a0 42) (Int32.toNatClampNeg x1)) < 0 → (Q (some (.int 1)) h)) ∧ (¬ (hI h (hR h a0 42) (Int32.toNatClampNeg x1)) < 0 → ((vp_in x1 (hN h (hR h a0 42))) ∧ (((hI h (hR h a0 42) (Int32.toNatClampNeg x1)) ≤ x2 → (Q (some (.int 0)) h)) ∧ (¬ (hI h (hR h a0 42) (Int32.toNatClampNeg x1)) ≤ x2 → (Q (some (.int 1)) h))))))))))))))) : EvM w mX10_waitsBehind d [.ref a0, .int x1, .int x2] h Q := by
  show Ev w (am_Z w) mX10_waitsBehind d 0 [(0, .ref a0), (1, .int x1), (2, .int x2)] [] h Q
  refine Ev.aload_n 0 (am_dt kX10_waitsBehind 0 rfl) rfl rfl ?_
  obtain ⟨f1, k⟩ := k
  obtain ⟨f2, k⟩ := k
  refine Ev.getR (ci := 10) (k := 38) (am_dt kX10_waitsBehind 1 rfl) (by decide) (by decide) rfl wd_567 f1 f2 ?_
  refine Ev.iload_n 1 (am_dt kX10_waitsBehind 2 rfl) rfl rfl ?_
  obtain ⟨f3, k⟩ := k
  obtain ⟨f4, k⟩ := k
  refine Ev.iald (am_dt kX10_waitsBehind 3 rfl) f3 f4 ?_
  refine Ev.iload_n 2 (am_dt kX10_waitsBehind 4 rfl) rfl rfl ?_
  refine Ev.icmp_gt (tgt := 33) (am_dt kX10_waitsBehind 5 rfl) (by decide) (fun c => ?_) (fun c => ?_)
  · have k := k.1 c
    refine Ev.iconst (v := 0) (am_dt kX10_waitsBehind 19 rfl) (by decide) ?_
    exact Ev.iret .boolean (am_dt kX10_waitsBehind 20 rfl) rfl rfl k
  · have k := k.2 c
    refine Ev.aload_n 0 (am_dt kX10_waitsBehind 6 rfl) rfl rfl ?_
    obtain ⟨f5, k⟩ := k
    refine Ev.getR (ci := 10) (k := 42) (am_dt kX10_waitsBehind 7 rfl) (by decide) (by decide) rfl wd_571 f1 f5 ?_
    refine Ev.iload_n 1 (am_dt kX10_waitsBehind 8 rfl) rfl rfl ?_
    obtain ⟨f6, k⟩ := k
    obtain ⟨f7, k⟩ := k
    refine Ev.iald (am_dt kX10_waitsBehind 9 rfl) f6 f7 ?_
    refine Ev.if_lt (tgt := 29) (am_dt kX10_waitsBehind 10 rfl) (by decide) (fun c => ?_) (fun c => ?_)
    · have k := k.1 c
      refine Ev.iconst (v := 1) (am_dt kX10_waitsBehind 17 rfl) (by decide) ?_
      refine Ev.goto (tgt := 34) (am_dt kX10_waitsBehind 18 rfl) (by decide) ?_
      exact Ev.iret .boolean (am_dt kX10_waitsBehind 20 rfl) rfl rfl k
    · have k := k.2 c
      refine Ev.aload_n 0 (am_dt kX10_waitsBehind 11 rfl) rfl rfl ?_
      refine Ev.getR (ci := 10) (k := 42) (am_dt kX10_waitsBehind 12 rfl) (by decide) (by decide) rfl wd_571 f1 f5 ?_
      refine Ev.iload_n 1 (am_dt kX10_waitsBehind 13 rfl) rfl rfl ?_
      obtain ⟨f8, k⟩ := k
      refine Ev.iald (am_dt kX10_waitsBehind 14 rfl) f6 f8 ?_
      refine Ev.iload_n 2 (am_dt kX10_waitsBehind 15 rfl) rfl rfl ?_
      refine Ev.icmp_le (tgt := 33) (am_dt kX10_waitsBehind 16 rfl) (by decide) (fun c => ?_) (fun c => ?_)
      · have k := k.1 c
        refine Ev.iconst (v := 0) (am_dt kX10_waitsBehind 19 rfl) (by decide) ?_
        exact Ev.iret .boolean (am_dt kX10_waitsBehind 20 rfl) rfl rfl k
      · have k := k.2 c
        refine Ev.iconst (v := 1) (am_dt kX10_waitsBehind 17 rfl) (by decide) ?_
        refine Ev.goto (tgt := 34) (am_dt kX10_waitsBehind 18 rfl) (by decide) ?_
        exact Ev.iret .boolean (am_dt kX10_waitsBehind 20 rfl) rfl rfl k
set_option maxRecDepth 20000 in
set_option maxHeartbeats 2000000 in
theorem bX10_bank_0 {w : am_W} {d : Nat} {h : am_H} {Q : Option Value → am_H → Prop} {a0 : Nat} {x1 : Int32} {x2 : Int32} {x3 : Int32}  (k : (hK h a0 = 10) ∧ (∀ h2 : am_H, h2 = sI h a0 0 0 → (EvM w mX10_within d [.int x1, .int 0, .int 1] h2 (fun r4 h3 => ∃ v5 : Int32, r4 = some (.int v5) ∧ ((v5 = 0 → (Q (some (.int ((-1)))) h3)) ∧ (¬ v5 = 0 → (EvM w mX10_isMinute d [.int x2] h3 (fun r7 h6 => ∃ v8 : Int32, r7 = some (.int v8) ∧ ((v8 = 0 → (Q (some (.int ((-1)))) h6)) ∧ (¬ v8 = 0 → (EvM w mX10_within d [.int x3, .int 0, .int 2] h6 (fun r10 h9 => ∃ v11 : Int32, r10 = some (.int v11) ∧ ((v11 = 0 → (Q (some (.int ((-1)))) h9)) ∧ (¬ v11 = 0 → ((hK h9 a0 = 10) ∧ (EvM w mX10_day d [.ref a0, .int ((-1))] h9 (fun r14 h13 => r14 = none ∧ (Ev w (am_Z w) mX10_bank (d + 1) 43 [(0, .ref a0), (1, .int x1), (2, .int x2), (3, .int x3), (4, .int 0), (5, .int 0)] [] h13 Q)))))))))))))))))) : EvM w mX10_bank (d + 1) [.ref a0, .int x1, .int x2, .int x3] h Q := by
  show Ev w (am_Z w) mX10_bank (d + 1) 0 [(0, .ref a0), (1, .int x1), (2, .int x2), (3, .int x3)] [] h Q
  refine Ev.aload_n 0 (am_dt kX10_bank 0 rfl) rfl rfl ?_
  refine Ev.iconst (v := 0) (am_dt kX10_bank 1 rfl) (by decide) ?_
  obtain ⟨f1, k⟩ := k
  refine Ev.putI' (ci := 10) (k := 0) (am_dt kX10_bank 2 rfl) (by decide) (by decide) wd_583 rfl rfl rfl rfl f1 (fun h2 eh2 => ?_)
  have k := k h2 eh2
  have f1 := kI eh2 f1
  refine Ev.iload_n 1 (am_dt kX10_bank 3 rfl) rfl rfl ?_
  refine Ev.iconst (v := 0) (am_dt kX10_bank 4 rfl) (by decide) ?_
  refine Ev.iconst (v := 1) (am_dt kX10_bank 5 rfl) (by decide) ?_
  refine Ev.callS (v := mX10_within) (As := [.int x1, .int 0, .int 1]) (st := []) okX10_within wd_653 wd_652 (am_dt kX10_bank 6 rfl) rfl rfl (Nat.le_of_ble_eq_true rfl) (Nat.le_of_ble_eq_true rfl) ?_
  refine EvM.mono k (fun r4 h3 k => ?_)
  obtain ⟨v5, rfl, k⟩ := k
  show Ev w _ _ _ 11 _ [.int v5] _ _
  refine Ev.if_eq (tgt := 30) (am_dt kX10_bank 7 rfl) (by decide) (fun c => ?_) (fun c => ?_)
  · have k := k.1 c
    refine Ev.iconst (v := (-1)) (am_dt kX10_bank 16 rfl) (by decide) ?_
    exact Ev.iret .int (am_dt kX10_bank 17 rfl) rfl rfl k
  · have k := k.2 c
    refine Ev.iload_n 2 (am_dt kX10_bank 8 rfl) rfl rfl ?_
    refine Ev.callS (v := mX10_isMinute) (As := [.int x2]) (st := []) okX10_isMinute wd_749 wd_748 (am_dt kX10_bank 9 rfl) rfl rfl (Nat.le_of_ble_eq_true rfl) (Nat.le_of_ble_eq_true rfl) ?_
    refine EvM.mono k (fun r7 h6 k => ?_)
    obtain ⟨v8, rfl, k⟩ := k
    show Ev w _ _ _ 18 _ [.int v8] _ _
    refine Ev.if_eq (tgt := 30) (am_dt kX10_bank 10 rfl) (by decide) (fun c => ?_) (fun c => ?_)
    · have k := k.1 c
      refine Ev.iconst (v := (-1)) (am_dt kX10_bank 16 rfl) (by decide) ?_
      exact Ev.iret .int (am_dt kX10_bank 17 rfl) rfl rfl k
    · have k := k.2 c
      refine Ev.iload_n 3 (am_dt kX10_bank 11 rfl) rfl rfl ?_
      refine Ev.iconst (v := 0) (am_dt kX10_bank 12 rfl) (by decide) ?_
      refine Ev.iconst (v := 2) (am_dt kX10_bank 13 rfl) (by decide) ?_
      refine Ev.callS (v := mX10_within) (As := [.int x3, .int 0, .int 2]) (st := []) okX10_within wd_653 wd_652 (am_dt kX10_bank 14 rfl) rfl rfl (Nat.le_of_ble_eq_true rfl) (Nat.le_of_ble_eq_true rfl) ?_
      refine EvM.mono k (fun r10 h9 k => ?_)
      obtain ⟨v11, rfl, k⟩ := k
      show Ev w _ _ _ 27 _ [.int v11] _ _
      refine Ev.if_ne (tgt := 32) (am_dt kX10_bank 15 rfl) (by decide) (fun c => ?_) (fun c => ?_)
      · have k := k.2 c
        refine Ev.aload_n 0 (am_dt kX10_bank 18 rfl) rfl rfl ?_
        refine Ev.iconst (v := (-1)) (am_dt kX10_bank 19 rfl) (by decide) ?_
        obtain ⟨f12, k⟩ := k
        refine Ev.callV (ci := 10) (v := mX10_day) (As := [.int ((-1))]) (st := []) okX10_day wd_742 wd_743 wd_744 (am_dt kX10_bank 20 rfl) (by decide) rfl rfl (Nat.le_of_ble_eq_true rfl) (Nat.le_of_ble_eq_true rfl) f12 ?_
        refine EvM.mono k (fun r14 h13 k => ?_)
        obtain ⟨rfl, k⟩ := k
        show Ev w _ _ _ 37 _ [] _ _
        refine Ev.iconst (v := 0) (am_dt kX10_bank 21 rfl) (by decide) ?_
        refine Ev.istore (lv' := [(4, .int 0), (0, .ref a0), (1, .int x1), (2, .int x2), (3, .int x3)]) (am_dt kX10_bank 22 rfl) (by decide) rfl ?_
        refine Ev.iconst (v := 0) (am_dt kX10_bank 23 rfl) (by decide) ?_
        refine Ev.istore (lv' := [(5, .int 0), (4, .int 0), (0, .ref a0), (1, .int x1), (2, .int x2), (3, .int x3)]) (am_dt kX10_bank 24 rfl) (by decide) rfl ?_
        exact Ev.sub [2, 3, 4, 5, 1, 0] rfl k
      · have k := k.1 c
        refine Ev.iconst (v := (-1)) (am_dt kX10_bank 16 rfl) (by decide) ?_
        exact Ev.iret .int (am_dt kX10_bank 17 rfl) rfl rfl k
set_option maxRecDepth 20000 in
set_option maxHeartbeats 2000000 in
theorem bX10_bank_43 {w : am_W} {d : Nat} {h : am_H} {Q : Option Value → am_H → Prop} {a0 : Nat} {x1 : Int32} {x2 : Int32} {x3 : Int32} {x4 : Int32} {x5 : Int32}  (k : (hK h a0 = 10) ∧ (((hI h a0 36) ≤ x5 → (Q (some (.int x4)) h)) ∧ (¬ (hI h a0 36) ≤ x5 → ((hR h a0 37 ≠ 0) ∧ ((hK h (hR h a0 37) = 12) ∧ ((vp_in x5 (hN h (hR h a0 37))) ∧ (((hI h (hR h a0 37) (Int32.toNatClampNeg x5)) = x1 → (EvM w mX10_waitsBehind d [.ref a0, .int x5, .int x2] h (fun r6 h5 => ∃ v7 : Int32, r6 = some (.int v7) ∧ ((v7 = 0 → (Ev w (am_Z w) mX10_bank (d + 1) 43 [(0, .ref a0), (1, .int x1), (2, .int x2), (3, .int x3), (4, .int x4), (5, .int (x5 + 1))] [] h5 Q)) ∧ (¬ v7 = 0 → ((x3 = 0 → (Ev w (am_Z w) mX10_bank (d + 1) 43 [(0, .ref a0), (1, .int x1), (2, .int x2), (3, .int x3), (4, .int (x4 + 1)), (5, .int (x5 + 1))] [] h5 Q)) ∧ (¬ x3 = 0 → ((x3 = 1 → ((hK h5 a0 = 10) ∧ ((hR h5 a0 41 ≠ 0) ∧ ((hK h5 (hR h5 a0 41) = 12) ∧ ((vp_in x5 (hN h5 (hR h5 a0 41))) ∧ (Ev w (am_Z w) mX10_bank (d + 1) 43 [(0, .ref a0), (1, .int x1), (2, .int x2), (3, .int x3), (4, .int (x4 + (hI h5 (hR h5 a0 41) (Int32.toNatClampNeg x5)))), (5, .int (x5 + 1))] [] h5 Q)))))) ∧ (¬ x3 = 1 → ((hK h5 a0 = 10) ∧ ((hR h5 a0 39 ≠ 0) ∧ ((hK h5 (hR h5 a0 39) = 12) ∧ ((vp_in x5 (hN h5 (hR h5 a0 39))) ∧ (Ev w (am_Z w) mX10_bank (d + 1) 43 [(0, .ref a0), (1, .int x1), (2, .int x2), (3, .int x3), (4, .int (x4 + (hI h5 (hR h5 a0 39) (Int32.toNatClampNeg x5)))), (5, .int (x5 + 1))] [] h5 Q)))))))))))))) ∧ (¬ (hI h (hR h a0 37) (Int32.toNatClampNeg x5)) = x1 → (Ev w (am_Z w) mX10_bank (d + 1) 43 [(0, .ref a0), (1, .int x1), (2, .int x2), (3, .int x3), (4, .int x4), (5, .int (x5 + 1))] [] h Q))))))))) : Ev w (am_Z w) mX10_bank (d + 1) 43 [(0, .ref a0), (1, .int x1), (2, .int x2), (3, .int x3), (4, .int x4), (5, .int x5)] [] h Q := by
  refine Ev.iload 5 (am_dt kX10_bank 25 rfl) rfl ?_
  refine Ev.aload_n 0 (am_dt kX10_bank 26 rfl) rfl rfl ?_
  obtain ⟨f1, k⟩ := k
  refine Ev.getI (ci := 10) (k := 36) (am_dt kX10_bank 27 rfl) (by decide) (by decide) rfl wd_703 f1 ?_
  refine Ev.icmp_ge (tgt := 117) (am_dt kX10_bank 28 rfl) (by decide) (fun c => ?_) (fun c => ?_)
  · have k := k.1 c
    refine Ev.iload 4 (am_dt kX10_bank 62 rfl) rfl ?_
    exact Ev.iret .int (am_dt kX10_bank 63 rfl) rfl rfl k
  · have k := k.2 c
    refine Ev.aload_n 0 (am_dt kX10_bank 29 rfl) rfl rfl ?_
    obtain ⟨f2, k⟩ := k
    refine Ev.getR (ci := 10) (k := 37) (am_dt kX10_bank 30 rfl) (by decide) (by decide) rfl wd_566 f1 f2 ?_
    refine Ev.iload 5 (am_dt kX10_bank 31 rfl) rfl ?_
    obtain ⟨f3, k⟩ := k
    obtain ⟨f4, k⟩ := k
    refine Ev.iald (am_dt kX10_bank 32 rfl) f3 f4 ?_
    refine Ev.iload_n 1 (am_dt kX10_bank 33 rfl) rfl rfl ?_
    refine Ev.icmp_ne (tgt := 111) (am_dt kX10_bank 34 rfl) (by decide) (fun c => ?_) (fun c => ?_)
    · have k := k.2 c
      refine Ev.iinc (v := x5 + 1) (lv' := [(5, .int (x5 + 1)), (0, .ref a0), (1, .int x1), (2, .int x2), (3, .int x3), (4, .int x4)]) 5 (am_dt kX10_bank 60 rfl) rfl rfl (by decide) rfl ?_
      refine Ev.goto (tgt := 43) (am_dt kX10_bank 61 rfl) (by decide) ?_
      exact Ev.sub [1, 2, 3, 4, 5, 0] rfl k
    · have k := k.1 c
      refine Ev.aload_n 0 (am_dt kX10_bank 35 rfl) rfl rfl ?_
      refine Ev.iload 5 (am_dt kX10_bank 36 rfl) rfl ?_
      refine Ev.iload_n 2 (am_dt kX10_bank 37 rfl) rfl rfl ?_
      refine Ev.callV (ci := 10) (v := mX10_waitsBehind) (As := [.int x5, .int x2]) (st := []) okX10_waitsBehind wd_750 wd_751 wd_752 (am_dt kX10_bank 38 rfl) (by decide) rfl rfl (Nat.le_of_ble_eq_true rfl) (Nat.le_of_ble_eq_true rfl) f1 ?_
      refine EvM.mono k (fun r6 h5 k => ?_)
      obtain ⟨v7, rfl, k⟩ := k
      show Ev w _ _ _ 70 _ [.int v7] _ _
      refine Ev.if_ne (tgt := 76) (am_dt kX10_bank 39 rfl) (by decide) (fun c => ?_) (fun c => ?_)
      · have k := k.2 c
        refine Ev.iload 4 (am_dt kX10_bank 41 rfl) rfl ?_
        refine Ev.iload_n 3 (am_dt kX10_bank 42 rfl) rfl rfl ?_
        refine Ev.if_ne (tgt := 86) (am_dt kX10_bank 43 rfl) (by decide) (fun c => ?_) (fun c => ?_)
        · have k := k.2 c
          refine Ev.iload_n 3 (am_dt kX10_bank 46 rfl) rfl rfl ?_
          refine Ev.iconst (v := 1) (am_dt kX10_bank 47 rfl) (by decide) ?_
          refine Ev.icmp_ne (tgt := 101) (am_dt kX10_bank 48 rfl) (by decide) (fun c => ?_) (fun c => ?_)
          · have k := k.2 c
            refine Ev.aload_n 0 (am_dt kX10_bank 54 rfl) rfl rfl ?_
            obtain ⟨f12, k⟩ := k
            obtain ⟨f13, k⟩ := k
            refine Ev.getR (ci := 10) (k := 39) (am_dt kX10_bank 55 rfl) (by decide) (by decide) rfl wd_568 f12 f13 ?_
            refine Ev.iload 5 (am_dt kX10_bank 56 rfl) rfl ?_
            obtain ⟨f14, k⟩ := k
            obtain ⟨f15, k⟩ := k
            refine Ev.iald (am_dt kX10_bank 57 rfl) f14 f15 ?_
            refine Ev.iadd (am_dt kX10_bank 58 rfl) ?_
            refine Ev.istore (lv' := [(4, .int (x4 + (hI h5 (hR h5 a0 39) (Int32.toNatClampNeg x5)))), (0, .ref a0), (1, .int x1), (2, .int x2), (3, .int x3), (5, .int x5)]) (am_dt kX10_bank 59 rfl) (by decide) rfl ?_
            refine Ev.iinc (v := x5 + 1) (lv' := [(5, .int (x5 + 1)), (4, .int (x4 + (hI h5 (hR h5 a0 39) (Int32.toNatClampNeg x5)))), (0, .ref a0), (1, .int x1), (2, .int x2), (3, .int x3)]) 5 (am_dt kX10_bank 60 rfl) rfl rfl (by decide) rfl ?_
            refine Ev.goto (tgt := 43) (am_dt kX10_bank 61 rfl) (by decide) ?_
            exact Ev.sub [2, 3, 4, 5, 1, 0] rfl k
          · have k := k.1 c
            refine Ev.aload_n 0 (am_dt kX10_bank 49 rfl) rfl rfl ?_
            obtain ⟨f8, k⟩ := k
            obtain ⟨f9, k⟩ := k
            refine Ev.getR (ci := 10) (k := 41) (am_dt kX10_bank 50 rfl) (by decide) (by decide) rfl wd_570 f8 f9 ?_
            refine Ev.iload 5 (am_dt kX10_bank 51 rfl) rfl ?_
            obtain ⟨f10, k⟩ := k
            obtain ⟨f11, k⟩ := k
            refine Ev.iald (am_dt kX10_bank 52 rfl) f10 f11 ?_
            refine Ev.goto (tgt := 108) (am_dt kX10_bank 53 rfl) (by decide) ?_
            refine Ev.iadd (am_dt kX10_bank 58 rfl) ?_
            refine Ev.istore (lv' := [(4, .int (x4 + (hI h5 (hR h5 a0 41) (Int32.toNatClampNeg x5)))), (0, .ref a0), (1, .int x1), (2, .int x2), (3, .int x3), (5, .int x5)]) (am_dt kX10_bank 59 rfl) (by decide) rfl ?_
            refine Ev.iinc (v := x5 + 1) (lv' := [(5, .int (x5 + 1)), (4, .int (x4 + (hI h5 (hR h5 a0 41) (Int32.toNatClampNeg x5)))), (0, .ref a0), (1, .int x1), (2, .int x2), (3, .int x3)]) 5 (am_dt kX10_bank 60 rfl) rfl rfl (by decide) rfl ?_
            refine Ev.goto (tgt := 43) (am_dt kX10_bank 61 rfl) (by decide) ?_
            exact Ev.sub [2, 3, 4, 5, 1, 0] rfl k
        · have k := k.1 c
          refine Ev.iconst (v := 1) (am_dt kX10_bank 44 rfl) (by decide) ?_
          refine Ev.goto (tgt := 108) (am_dt kX10_bank 45 rfl) (by decide) ?_
          refine Ev.iadd (am_dt kX10_bank 58 rfl) ?_
          refine Ev.istore (lv' := [(4, .int (x4 + 1)), (0, .ref a0), (1, .int x1), (2, .int x2), (3, .int x3), (5, .int x5)]) (am_dt kX10_bank 59 rfl) (by decide) rfl ?_
          refine Ev.iinc (v := x5 + 1) (lv' := [(5, .int (x5 + 1)), (4, .int (x4 + 1)), (0, .ref a0), (1, .int x1), (2, .int x2), (3, .int x3)]) 5 (am_dt kX10_bank 60 rfl) rfl rfl (by decide) rfl ?_
          refine Ev.goto (tgt := 43) (am_dt kX10_bank 61 rfl) (by decide) ?_
          exact Ev.sub [2, 3, 4, 5, 1, 0] rfl k
      · have k := k.1 c
        refine Ev.goto (tgt := 111) (am_dt kX10_bank 40 rfl) (by decide) ?_
        refine Ev.iinc (v := x5 + 1) (lv' := [(5, .int (x5 + 1)), (0, .ref a0), (1, .int x1), (2, .int x2), (3, .int x3), (4, .int x4)]) 5 (am_dt kX10_bank 60 rfl) rfl rfl (by decide) rfl ?_
        refine Ev.goto (tgt := 43) (am_dt kX10_bank 61 rfl) (by decide) ?_
        exact Ev.sub [1, 2, 3, 4, 5, 0] rfl k
set_option maxRecDepth 20000 in
set_option maxHeartbeats 2000000 in
theorem bX10_ringsBy_0 {w : am_W} {d : Nat} {h : am_H} {Q : Option Value → am_H → Prop} {a0 : Nat} {x1 : Int32} {x2 : Int32} {x3 : Int32}  (k : (hK h a0 = 10) ∧ (EvM w mX10_tellsAll d [.ref a0, .int ((-1))] h (fun r3 h2 => r3 = none ∧ ((hK h2 a0 = 10) ∧ (EvM w mX10_goesOn d [.ref a0, .int 0, .int (x1 - 1)] h2 (fun r6 h5 => r6 = none ∧ ((hK h5 a0 = 10) ∧ (Ev w (am_Z w) mX10_ringsBy (d + 1) 22 [(0, .ref a0), (1, .int x1), (2, .int x2), (3, .int x3), (4, .int (hI h5 a0 44)), (5, .int 0)] [] h5 Q)))))))) : EvM w mX10_ringsBy (d + 1) [.ref a0, .int x1, .int x2, .int x3] h Q := by
  show Ev w (am_Z w) mX10_ringsBy (d + 1) 0 [(0, .ref a0), (1, .int x1), (2, .int x2), (3, .int x3)] [] h Q
  refine Ev.aload_n 0 (am_dt kX10_ringsBy 0 rfl) rfl rfl ?_
  refine Ev.iconst (v := (-1)) (am_dt kX10_ringsBy 1 rfl) (by decide) ?_
  obtain ⟨f1, k⟩ := k
  refine Ev.callV (ci := 10) (v := mX10_tellsAll) (As := [.int ((-1))]) (st := []) okX10_tellsAll wd_733 wd_734 wd_735 (am_dt kX10_ringsBy 2 rfl) (by decide) rfl rfl (Nat.le_of_ble_eq_true rfl) (Nat.le_of_ble_eq_true rfl) f1 ?_
  refine EvM.mono k (fun r3 h2 k => ?_)
  obtain ⟨rfl, k⟩ := k
  show Ev w _ _ _ 5 _ [] _ _
  refine Ev.aload_n 0 (am_dt kX10_ringsBy 3 rfl) rfl rfl ?_
  refine Ev.iconst (v := 0) (am_dt kX10_ringsBy 4 rfl) (by decide) ?_
  refine Ev.iload_n 1 (am_dt kX10_ringsBy 5 rfl) rfl rfl ?_
  refine Ev.iconst (v := 1) (am_dt kX10_ringsBy 6 rfl) (by decide) ?_
  refine Ev.isub (am_dt kX10_ringsBy 7 rfl) ?_
  obtain ⟨f4, k⟩ := k
  refine Ev.callV (ci := 10) (v := mX10_goesOn) (As := [.int 0, .int (x1 - 1)]) (st := []) okX10_goesOn wd_736 wd_737 wd_738 (am_dt kX10_ringsBy 8 rfl) (by decide) rfl rfl (Nat.le_of_ble_eq_true rfl) (Nat.le_of_ble_eq_true rfl) f4 ?_
  refine EvM.mono k (fun r6 h5 k => ?_)
  obtain ⟨rfl, k⟩ := k
  show Ev w _ _ _ 13 _ [] _ _
  refine Ev.aload_n 0 (am_dt kX10_ringsBy 9 rfl) rfl rfl ?_
  obtain ⟨f7, k⟩ := k
  refine Ev.getI (ci := 10) (k := 44) (am_dt kX10_ringsBy 10 rfl) (by decide) (by decide) rfl wd_704 f7 ?_
  refine Ev.istore (lv' := [(4, .int (hI h5 a0 44)), (0, .ref a0), (1, .int x1), (2, .int x2), (3, .int x3)]) (am_dt kX10_ringsBy 11 rfl) (by decide) rfl ?_
  refine Ev.iconst (v := 0) (am_dt kX10_ringsBy 12 rfl) (by decide) ?_
  refine Ev.istore (lv' := [(5, .int 0), (4, .int (hI h5 a0 44)), (0, .ref a0), (1, .int x1), (2, .int x2), (3, .int x3)]) (am_dt kX10_ringsBy 13 rfl) (by decide) rfl ?_
  exact Ev.sub [2, 3, 4, 5, 1, 0] rfl k
set_option maxRecDepth 20000 in
set_option maxHeartbeats 2000000 in
theorem bX10_ringsBy_22 {w : am_W} {d : Nat} {h : am_H} {Q : Option Value → am_H → Prop} {a0 : Nat} {x1 : Int32} {x2 : Int32} {x3 : Int32} {x4 : Int32} {x5 : Int32}  (k : (x3 ≤ x5 → ((hK h a0 = 10) ∧ (EvM w mX10_goesOn d [.ref a0, .int x1, .int x1] h (fun r3 h2 => r3 = none ∧ ((hK h2 a0 = 10) ∧ (((hI h2 a0 44) ≤ x4 → (Q (some (.int 0)) h2)) ∧ (¬ (hI h2 a0 44) ≤ x4 → (Q (some (.int 1)) h2)))))))) ∧ (¬ x3 ≤ x5 → ((hK h a0 = 10) ∧ (EvM w mX10_joins d [.ref a0, .int x2, .int x1, .int 70, .int 0, .int 2] h (fun r7 h6 => r7 = none ∧ (Ev w (am_Z w) mX10_ringsBy (d + 1) 22 [(0, .ref a0), (1, .int x1), (2, .int x2), (3, .int x3), (4, .int x4), (5, .int (x5 + 1))] [] h6 Q)))))) : Ev w (am_Z w) mX10_ringsBy (d + 1) 22 [(0, .ref a0), (1, .int x1), (2, .int x2), (3, .int x3), (4, .int x4), (5, .int x5)] [] h Q := by
  refine Ev.iload 5 (am_dt kX10_ringsBy 14 rfl) rfl ?_
  refine Ev.iload_n 3 (am_dt kX10_ringsBy 15 rfl) rfl rfl ?_
  refine Ev.icmp_ge (tgt := 44) (am_dt kX10_ringsBy 16 rfl) (by decide) (fun c => ?_) (fun c => ?_)
  · have k := k.1 c
    refine Ev.aload_n 0 (am_dt kX10_ringsBy 26 rfl) rfl rfl ?_
    refine Ev.iload_n 1 (am_dt kX10_ringsBy 27 rfl) rfl rfl ?_
    refine Ev.iload_n 1 (am_dt kX10_ringsBy 28 rfl) rfl rfl ?_
    obtain ⟨f1, k⟩ := k
    refine Ev.callV (ci := 10) (v := mX10_goesOn) (As := [.int x1, .int x1]) (st := []) okX10_goesOn wd_736 wd_737 wd_738 (am_dt kX10_ringsBy 29 rfl) (by decide) rfl rfl (Nat.le_of_ble_eq_true rfl) (Nat.le_of_ble_eq_true rfl) f1 ?_
    refine EvM.mono k (fun r3 h2 k => ?_)
    obtain ⟨rfl, k⟩ := k
    show Ev w _ _ _ 50 _ [] _ _
    refine Ev.aload_n 0 (am_dt kX10_ringsBy 30 rfl) rfl rfl ?_
    obtain ⟨f4, k⟩ := k
    refine Ev.getI (ci := 10) (k := 44) (am_dt kX10_ringsBy 31 rfl) (by decide) (by decide) rfl wd_704 f4 ?_
    refine Ev.iload 4 (am_dt kX10_ringsBy 32 rfl) rfl ?_
    refine Ev.icmp_le (tgt := 63) (am_dt kX10_ringsBy 33 rfl) (by decide) (fun c => ?_) (fun c => ?_)
    · have k := k.1 c
      refine Ev.iconst (v := 0) (am_dt kX10_ringsBy 36 rfl) (by decide) ?_
      exact Ev.iret .boolean (am_dt kX10_ringsBy 37 rfl) rfl rfl k
    · have k := k.2 c
      refine Ev.iconst (v := 1) (am_dt kX10_ringsBy 34 rfl) (by decide) ?_
      refine Ev.goto (tgt := 64) (am_dt kX10_ringsBy 35 rfl) (by decide) ?_
      exact Ev.iret .boolean (am_dt kX10_ringsBy 37 rfl) rfl rfl k
  · have k := k.2 c
    refine Ev.aload_n 0 (am_dt kX10_ringsBy 17 rfl) rfl rfl ?_
    refine Ev.iload_n 2 (am_dt kX10_ringsBy 18 rfl) rfl rfl ?_
    refine Ev.iload_n 1 (am_dt kX10_ringsBy 19 rfl) rfl rfl ?_
    refine Ev.bipush (v := 70) (am_dt kX10_ringsBy 20 rfl) (by decide) ?_
    refine Ev.iconst (v := 0) (am_dt kX10_ringsBy 21 rfl) (by decide) ?_
    refine Ev.iconst (v := 2) (am_dt kX10_ringsBy 22 rfl) (by decide) ?_
    obtain ⟨f5, k⟩ := k
    refine Ev.callV (ci := 10) (v := mX10_joins) (As := [.int x2, .int x1, .int 70, .int 0, .int 2]) (st := []) okX10_joins wd_712 wd_713 wd_714 (am_dt kX10_ringsBy 23 rfl) (by decide) rfl rfl (Nat.le_of_ble_eq_true rfl) (Nat.le_of_ble_eq_true rfl) f5 ?_
    refine EvM.mono k (fun r7 h6 k => ?_)
    obtain ⟨rfl, k⟩ := k
    show Ev w _ _ _ 38 _ [] _ _
    refine Ev.iinc (v := x5 + 1) (lv' := [(5, .int (x5 + 1)), (0, .ref a0), (1, .int x1), (2, .int x2), (3, .int x3), (4, .int x4)]) 5 (am_dt kX10_ringsBy 24 rfl) rfl rfl (by decide) rfl ?_
    refine Ev.goto (tgt := 22) (am_dt kX10_ringsBy 25 rfl) (by decide) ?_
    exact Ev.sub [1, 2, 3, 4, 5, 0] rfl k
set_option maxRecDepth 20000 in
set_option maxHeartbeats 2000000 in
theorem bX10_send_0 {w : am_W} {d : Nat} {h : am_H} {Q : Option Value → am_H → Prop} {a0 : Nat} {x1 : Int32} {x2 : Int32}  (k : (hK h a0 = 10) ∧ (∀ h2 : am_H, h2 = sI h a0 0 0 → (EvM w mX10_isMinute d [.int x1] h2 (fun r4 h3 => ∃ v5 : Int32, r4 = some (.int v5) ∧ ((v5 = 0 → (Q (some (.int ((-1)))) h3)) ∧ (¬ v5 = 0 → (EvM w mX10_within d [.int x2, .int 0, .int 1] h3 (fun r7 h6 => ∃ v8 : Int32, r7 = some (.int v8) ∧ ((v8 = 0 → (Q (some (.int ((-1)))) h6)) ∧ (¬ v8 = 0 → (Ev w (am_Z w) mX10_send (d + 1) 25 [(0, .ref a0), (1, .int x1), (2, .int x2), (3, .int 0)] [] h6 Q))))))))))) : EvM w mX10_send (d + 1) [.ref a0, .int x1, .int x2] h Q := by
  show Ev w (am_Z w) mX10_send (d + 1) 0 [(0, .ref a0), (1, .int x1), (2, .int x2)] [] h Q
  refine Ev.aload_n 0 (am_dt kX10_send 0 rfl) rfl rfl ?_
  refine Ev.iconst (v := 0) (am_dt kX10_send 1 rfl) (by decide) ?_
  obtain ⟨f1, k⟩ := k
  refine Ev.putI' (ci := 10) (k := 0) (am_dt kX10_send 2 rfl) (by decide) (by decide) wd_583 rfl rfl rfl rfl f1 (fun h2 eh2 => ?_)
  have k := k h2 eh2
  have f1 := kI eh2 f1
  refine Ev.iload_n 1 (am_dt kX10_send 3 rfl) rfl rfl ?_
  refine Ev.callS (v := mX10_isMinute) (As := [.int x1]) (st := []) okX10_isMinute wd_749 wd_748 (am_dt kX10_send 4 rfl) rfl rfl (Nat.le_of_ble_eq_true rfl) (Nat.le_of_ble_eq_true rfl) ?_
  refine EvM.mono k (fun r4 h3 k => ?_)
  obtain ⟨v5, rfl, k⟩ := k
  show Ev w _ _ _ 9 _ [.int v5] _ _
  refine Ev.if_eq (tgt := 21) (am_dt kX10_send 5 rfl) (by decide) (fun c => ?_) (fun c => ?_)
  · have k := k.1 c
    refine Ev.iconst (v := (-1)) (am_dt kX10_send 11 rfl) (by decide) ?_
    exact Ev.iret .int (am_dt kX10_send 12 rfl) rfl rfl k
  · have k := k.2 c
    refine Ev.iload_n 2 (am_dt kX10_send 6 rfl) rfl rfl ?_
    refine Ev.iconst (v := 0) (am_dt kX10_send 7 rfl) (by decide) ?_
    refine Ev.iconst (v := 1) (am_dt kX10_send 8 rfl) (by decide) ?_
    refine Ev.callS (v := mX10_within) (As := [.int x2, .int 0, .int 1]) (st := []) okX10_within wd_653 wd_652 (am_dt kX10_send 9 rfl) rfl rfl (Nat.le_of_ble_eq_true rfl) (Nat.le_of_ble_eq_true rfl) ?_
    refine EvM.mono k (fun r7 h6 k => ?_)
    obtain ⟨v8, rfl, k⟩ := k
    show Ev w _ _ _ 18 _ [.int v8] _ _
    refine Ev.if_ne (tgt := 23) (am_dt kX10_send 10 rfl) (by decide) (fun c => ?_) (fun c => ?_)
    · have k := k.2 c
      refine Ev.iconst (v := 0) (am_dt kX10_send 13 rfl) (by decide) ?_
      refine Ev.istore_n (lv' := [(3, .int 0), (0, .ref a0), (1, .int x1), (2, .int x2)]) (am_dt kX10_send 14 rfl) rfl (by decide) rfl ?_
      exact Ev.sub [1, 2, 3, 0] rfl k
    · have k := k.1 c
      refine Ev.iconst (v := (-1)) (am_dt kX10_send 11 rfl) (by decide) ?_
      exact Ev.iret .int (am_dt kX10_send 12 rfl) rfl rfl k
set_option maxRecDepth 20000 in
set_option maxHeartbeats 2000000 in
theorem bX10_send_25 {w : am_W} {d : Nat} {h : am_H} {Q : Option Value → am_H → Prop} {a0 : Nat} {x1 : Int32} {x2 : Int32} {x3 : Int32}  (k : (40 < x3 → (Q (some (.int ((-1)))) h)) ∧ (¬ 40 < x3 → (Ev w (am_Z w) mX10_send (d + 1) 34 [(0, .ref a0), (1, .int x1), (2, .int x2), (3, .int x3), (4, .int 0)] [] h Q))) : Ev w (am_Z w) mX10_send (d + 1) 25 [(0, .ref a0), (1, .int x1), (2, .int x2), (3, .int x3)] [] h Q := by
  refine Ev.iload_n 3 (am_dt kX10_send 15 rfl) rfl rfl ?_
  refine Ev.bipush (v := 40) (am_dt kX10_send 16 rfl) (by decide) ?_
  refine Ev.icmp_gt (tgt := 85) (am_dt kX10_send 17 rfl) (by decide) (fun c => ?_) (fun c => ?_)
  · have k := k.1 c
    refine Ev.iconst (v := (-1)) (am_dt kX10_send 44 rfl) (by decide) ?_
    exact Ev.iret .int (am_dt kX10_send 45 rfl) rfl rfl k
  · have k := k.2 c
    refine Ev.iconst (v := 0) (am_dt kX10_send 18 rfl) (by decide) ?_
    refine Ev.istore (lv' := [(4, .int 0), (0, .ref a0), (1, .int x1), (2, .int x2), (3, .int x3)]) (am_dt kX10_send 19 rfl) (by decide) rfl ?_
    exact Ev.sub [1, 2, 3, 4, 0] rfl k
set_option maxRecDepth 20000 in
set_option maxHeartbeats 2000000 in
theorem bX10_send_34 {w : am_W} {d : Nat} {h : am_H} {Q : Option Value → am_H → Prop} {a0 : Nat} {x1 : Int32} {x2 : Int32} {x3 : Int32} {x4 : Int32}  (k : (2 ≤ x4 → (Ev w (am_Z w) mX10_send (d + 1) 25 [(0, .ref a0), (1, .int x1), (2, .int x2), (3, .int (x3 + 1))] [] h Q)) ∧ (¬ 2 ≤ x4 → ((hK h a0 = 10) ∧ (EvM w mX10_ringsBy d [.ref a0, .int x1, .int x4, .int x3] h (fun r3 h2 => ∃ v4 : Int32, r3 = some (.int v4) ∧ ((v4 = 0 → (Ev w (am_Z w) mX10_send (d + 1) 34 [(0, .ref a0), (1, .int x1), (2, .int x2), (3, .int x3), (4, .int (x4 + 1))] [] h2 Q)) ∧ (¬ v4 = 0 → ((x2 = 0 → (Q (some (.int x3)) h2)) ∧ (¬ x2 = 0 → ((x3 = 0 → (Q (some (.int ((-1)))) h2)) ∧ (¬ x3 = 0 → (Q (some (.int x4)) h2)))))))))))) : Ev w (am_Z w) mX10_send (d + 1) 34 [(0, .ref a0), (1, .int x1), (2, .int x2), (3, .int x3), (4, .int x4)] [] h Q := by
  refine Ev.iload 4 (am_dt kX10_send 20 rfl) rfl ?_
  refine Ev.iconst (v := 2) (am_dt kX10_send 21 rfl) (by decide) ?_
  refine Ev.icmp_ge (tgt := 79) (am_dt kX10_send 22 rfl) (by decide) (fun c => ?_) (fun c => ?_)
  · have k := k.1 c
    refine Ev.iinc (v := x3 + 1) (lv' := [(3, .int (x3 + 1)), (0, .ref a0), (1, .int x1), (2, .int x2), (4, .int x4)]) 3 (am_dt kX10_send 42 rfl) rfl rfl (by decide) rfl ?_
    refine Ev.goto (tgt := 25) (am_dt kX10_send 43 rfl) (by decide) ?_
    exact Ev.sub [1, 2, 3, 0] rfl k
  · have k := k.2 c
    refine Ev.aload_n 0 (am_dt kX10_send 23 rfl) rfl rfl ?_
    refine Ev.iload_n 1 (am_dt kX10_send 24 rfl) rfl rfl ?_
    refine Ev.iload 4 (am_dt kX10_send 25 rfl) rfl ?_
    refine Ev.iload_n 3 (am_dt kX10_send 26 rfl) rfl rfl ?_
    obtain ⟨f1, k⟩ := k
    refine Ev.callV (ci := 10) (v := mX10_ringsBy) (As := [.int x1, .int x4, .int x3]) (st := []) okX10_ringsBy wd_753 wd_754 wd_755 (am_dt kX10_send 27 rfl) (by decide) rfl rfl (Nat.le_of_ble_eq_true rfl) (Nat.le_of_ble_eq_true rfl) f1 ?_
    refine EvM.mono k (fun r3 h2 k => ?_)
    obtain ⟨v4, rfl, k⟩ := k
    show Ev w _ _ _ 48 _ [.int v4] _ _
    refine Ev.if_ne (tgt := 54) (am_dt kX10_send 28 rfl) (by decide) (fun c => ?_) (fun c => ?_)
    · have k := k.2 c
      refine Ev.iload_n 2 (am_dt kX10_send 30 rfl) rfl rfl ?_
      refine Ev.if_ne (tgt := 62) (am_dt kX10_send 31 rfl) (by decide) (fun c => ?_) (fun c => ?_)
      · have k := k.2 c
        refine Ev.iload_n 3 (am_dt kX10_send 34 rfl) rfl rfl ?_
        refine Ev.if_ne (tgt := 70) (am_dt kX10_send 35 rfl) (by decide) (fun c => ?_) (fun c => ?_)
        · have k := k.2 c
          refine Ev.iload 4 (am_dt kX10_send 38 rfl) rfl ?_
          exact Ev.iret .int (am_dt kX10_send 39 rfl) rfl rfl k
        · have k := k.1 c
          refine Ev.iconst (v := (-1)) (am_dt kX10_send 36 rfl) (by decide) ?_
          refine Ev.goto (tgt := 72) (am_dt kX10_send 37 rfl) (by decide) ?_
          exact Ev.iret .int (am_dt kX10_send 39 rfl) rfl rfl k
      · have k := k.1 c
        refine Ev.iload_n 3 (am_dt kX10_send 32 rfl) rfl rfl ?_
        refine Ev.goto (tgt := 72) (am_dt kX10_send 33 rfl) (by decide) ?_
        exact Ev.iret .int (am_dt kX10_send 39 rfl) rfl rfl k
    · have k := k.1 c
      refine Ev.goto (tgt := 73) (am_dt kX10_send 29 rfl) (by decide) ?_
      refine Ev.iinc (v := x4 + 1) (lv' := [(4, .int (x4 + 1)), (0, .ref a0), (1, .int x1), (2, .int x2), (3, .int x3)]) 4 (am_dt kX10_send 40 rfl) rfl rfl (by decide) rfl ?_
      refine Ev.goto (tgt := 34) (am_dt kX10_send 41 rfl) (by decide) ?_
      exact Ev.sub [1, 2, 3, 4, 0] rfl k
set_option maxRecDepth 20000 in
set_option maxHeartbeats 2000000 in
theorem bX10_canTurn_0 {w : am_W} {d : Nat} {h : am_H} {Q : Option Value → am_H → Prop} {a0 : Nat} {x1 : Int32} {x2 : Int32}  (k : (hK h a0 = 10) ∧ (EvM w mX10_isPerson d [.ref a0, .int x1] h (fun r3 h2 => ∃ v4 : Int32, r3 = some (.int v4) ∧ ((v4 = 0 → (Q (some (.int 0)) h2)) ∧ (¬ v4 = 0 → (EvM w mX10_isMinute d [.int x2] h2 (fun r6 h5 => ∃ v7 : Int32, r6 = some (.int v7) ∧ ((v7 = 0 → (Q (some (.int 0)) h5)) ∧ (¬ v7 = 0 → ((hK h5 a0 = 10) ∧ ((hR h5 a0 19 ≠ 0) ∧ ((hK h5 (hR h5 a0 19) = 12) ∧ ((vp_in x1 (hN h5 (hR h5 a0 19))) ∧ (((hI h5 (hR h5 a0 19) (Int32.toNatClampNeg x1)) = 4 → (EvM w mX10_day d [.ref a0, .int ((-1))] h5 (fun r13 h12 => r13 = none ∧ ((hK h12 a0 = 10) ∧ (EvM w mX10_waitsBehind d [.ref a0, .int x1, .int x2] h12 (fun r16 h15 => ∃ v17 : Int32, r16 = some (.int v17) ∧ (narrow .boolean (.int v17) = .int v17 ∧ (Q (some (.int v17)) h15)))))))) ∧ (¬ (hI h5 (hR h5 a0 19) (Int32.toNatClampNeg x1)) = 4 → (Q (some (.int 0)) h5)))))))))))))))) : EvM w mX10_canTurn (d + 1) [.ref a0, .int x1, .int x2] h Q := by
  show Ev w (am_Z w) mX10_canTurn (d + 1) 0 [(0, .ref a0), (1, .int x1), (2, .int x2)] [] h Q
  refine Ev.aload_n 0 (am_dt kX10_canTurn 0 rfl) rfl rfl ?_
  refine Ev.iload_n 1 (am_dt kX10_canTurn 1 rfl) rfl rfl ?_
  obtain ⟨f1, k⟩ := k
  refine Ev.callV (ci := 10) (v := mX10_isPerson) (As := [.int x1]) (st := []) okX10_isPerson wd_698 wd_699 wd_700 (am_dt kX10_canTurn 2 rfl) (by decide) rfl rfl (Nat.le_of_ble_eq_true rfl) (Nat.le_of_ble_eq_true rfl) f1 ?_
  refine EvM.mono k (fun r3 h2 k => ?_)
  obtain ⟨v4, rfl, k⟩ := k
  show Ev w _ _ _ 5 _ [.int v4] _ _
  refine Ev.if_eq (tgt := 25) (am_dt kX10_canTurn 3 rfl) (by decide) (fun c => ?_) (fun c => ?_)
  · have k := k.1 c
    refine Ev.iconst (v := 0) (am_dt kX10_canTurn 13 rfl) (by decide) ?_
    exact Ev.iret .boolean (am_dt kX10_canTurn 14 rfl) rfl rfl k
  · have k := k.2 c
    refine Ev.iload_n 2 (am_dt kX10_canTurn 4 rfl) rfl rfl ?_
    refine Ev.callS (v := mX10_isMinute) (As := [.int x2]) (st := []) okX10_isMinute wd_749 wd_748 (am_dt kX10_canTurn 5 rfl) rfl rfl (Nat.le_of_ble_eq_true rfl) (Nat.le_of_ble_eq_true rfl) ?_
    refine EvM.mono k (fun r6 h5 k => ?_)
    obtain ⟨v7, rfl, k⟩ := k
    show Ev w _ _ _ 12 _ [.int v7] _ _
    refine Ev.if_eq (tgt := 25) (am_dt kX10_canTurn 6 rfl) (by decide) (fun c => ?_) (fun c => ?_)
    · have k := k.1 c
      refine Ev.iconst (v := 0) (am_dt kX10_canTurn 13 rfl) (by decide) ?_
      exact Ev.iret .boolean (am_dt kX10_canTurn 14 rfl) rfl rfl k
    · have k := k.2 c
      refine Ev.aload_n 0 (am_dt kX10_canTurn 7 rfl) rfl rfl ?_
      obtain ⟨f8, k⟩ := k
      obtain ⟨f9, k⟩ := k
      refine Ev.getR (ci := 10) (k := 19) (am_dt kX10_canTurn 8 rfl) (by decide) (by decide) rfl wd_552 f8 f9 ?_
      refine Ev.iload_n 1 (am_dt kX10_canTurn 9 rfl) rfl rfl ?_
      obtain ⟨f10, k⟩ := k
      obtain ⟨f11, k⟩ := k
      refine Ev.iald (am_dt kX10_canTurn 10 rfl) f10 f11 ?_
      refine Ev.iconst (v := 4) (am_dt kX10_canTurn 11 rfl) (by decide) ?_
      refine Ev.icmp_eq (tgt := 27) (am_dt kX10_canTurn 12 rfl) (by decide) (fun c => ?_) (fun c => ?_)
      · have k := k.1 c
        refine Ev.aload_n 0 (am_dt kX10_canTurn 15 rfl) rfl rfl ?_
        refine Ev.iconst (v := (-1)) (am_dt kX10_canTurn 16 rfl) (by decide) ?_
        refine Ev.callV (ci := 10) (v := mX10_day) (As := [.int ((-1))]) (st := []) okX10_day wd_742 wd_743 wd_744 (am_dt kX10_canTurn 17 rfl) (by decide) rfl rfl (Nat.le_of_ble_eq_true rfl) (Nat.le_of_ble_eq_true rfl) f8 ?_
        refine EvM.mono k (fun r13 h12 k => ?_)
        obtain ⟨rfl, k⟩ := k
        show Ev w _ _ _ 32 _ [] _ _
        refine Ev.aload_n 0 (am_dt kX10_canTurn 18 rfl) rfl rfl ?_
        refine Ev.iload_n 1 (am_dt kX10_canTurn 19 rfl) rfl rfl ?_
        refine Ev.iload_n 2 (am_dt kX10_canTurn 20 rfl) rfl rfl ?_
        obtain ⟨f14, k⟩ := k
        refine Ev.callV (ci := 10) (v := mX10_waitsBehind) (As := [.int x1, .int x2]) (st := []) okX10_waitsBehind wd_750 wd_751 wd_752 (am_dt kX10_canTurn 21 rfl) (by decide) rfl rfl (Nat.le_of_ble_eq_true rfl) (Nat.le_of_ble_eq_true rfl) f14 ?_
        refine EvM.mono k (fun r16 h15 k => ?_)
        obtain ⟨v17, rfl, k⟩ := k
        show Ev w _ _ _ 38 _ [.int v17] _ _
        exact Ev.iret .boolean (am_dt kX10_canTurn 22 rfl) rfl k.1 k.2
      · have k := k.2 c
        refine Ev.iconst (v := 0) (am_dt kX10_canTurn 13 rfl) (by decide) ?_
        exact Ev.iret .boolean (am_dt kX10_canTurn 14 rfl) rfl rfl k
set_option maxRecDepth 20000 in
set_option maxHeartbeats 2000000 in
theorem bX10_turns_0 {w : am_W} {d : Nat} {h : am_H} {Q : Option Value → am_H → Prop} {a0 : Nat} {x1 : Int32} {x2 : Int32}  (k : (hK h a0 = 10) ∧ (EvM w mX10_costAll d [.ref a0, .int x1] h (fun r3 h2 => ∃ v4 : Int32, r3 = some (.int v4) ∧ ((hK h2 a0 = 10) ∧ (EvM w mX10_tellsAll d [.ref a0, .int ((-1))] h2 (fun r7 h6 => r7 = none ∧ ((hK h6 a0 = 10) ∧ (EvM w mX10_goesOn d [.ref a0, .int 0, .int x2] h6 (fun r10 h9 => r10 = none ∧ ((hK h9 a0 = 10) ∧ ((hR h9 a0 42 ≠ 0) ∧ ((hK h9 (hR h9 a0 42) = 12) ∧ ((vp_in x1 (hN h9 (hR h9 a0 42))) ∧ (∀ h15 : am_H, h15 = sI h9 (hR h9 a0 42) (Int32.toNatClampNeg x1) ((-2)) → (EvM w mX10_goesOn d [.ref a0, .int (x2 + 1), .int 1439] h15 (fun r17 h16 => r17 = none ∧ ((hK h16 a0 = 10) ∧ (EvM w mX10_costAll d [.ref a0, .int x1] h16 (fun r20 h19 => ∃ v21 : Int32, r20 = some (.int v21) ∧ (Q (some (.int (v4 - v21))) h19)))))))))))))))))))) : EvM w mX10_turns (d + 1) [.ref a0, .int x1, .int x2] h Q := by
  show Ev w (am_Z w) mX10_turns (d + 1) 0 [(0, .ref a0), (1, .int x1), (2, .int x2)] [] h Q
  refine Ev.aload_n 0 (am_dt kX10_turns 0 rfl) rfl rfl ?_
  refine Ev.iload_n 1 (am_dt kX10_turns 1 rfl) rfl rfl ?_
  obtain ⟨f1, k⟩ := k
  refine Ev.callV (ci := 10) (v := mX10_costAll) (As := [.int x1]) (st := []) okX10_costAll wd_745 wd_746 wd_747 (am_dt kX10_turns 2 rfl) (by decide) rfl rfl (Nat.le_of_ble_eq_true rfl) (Nat.le_of_ble_eq_true rfl) f1 ?_
  refine EvM.mono k (fun r3 h2 k => ?_)
  obtain ⟨v4, rfl, k⟩ := k
  show Ev w _ _ _ 5 _ [.int v4] _ _
  refine Ev.istore_n (lv' := [(3, .int v4), (0, .ref a0), (1, .int x1), (2, .int x2)]) (am_dt kX10_turns 3 rfl) rfl (by decide) rfl ?_
  refine Ev.aload_n 1 (am_dt kX10_turns 4 rfl) rfl rfl ?_
  refine Ev.iconst (v := (-1)) (am_dt kX10_turns 5 rfl) (by decide) ?_
  obtain ⟨f5, k⟩ := k
  refine Ev.callV (ci := 10) (v := mX10_tellsAll) (As := [.int ((-1))]) (st := []) okX10_tellsAll wd_733 wd_734 wd_735 (am_dt kX10_turns 6 rfl) (by decide) rfl rfl (Nat.le_of_ble_eq_true rfl) (Nat.le_of_ble_eq_true rfl) f5 ?_
  refine EvM.mono k (fun r7 h6 k => ?_)
  obtain ⟨rfl, k⟩ := k
  show Ev w _ _ _ 11 _ [] _ _
  refine Ev.aload_n 1 (am_dt kX10_turns 7 rfl) rfl rfl ?_
  refine Ev.iconst (v := 0) (am_dt kX10_turns 8 rfl) (by decide) ?_
  refine Ev.iload_n 3 (am_dt kX10_turns 9 rfl) rfl rfl ?_
  obtain ⟨f8, k⟩ := k
  refine Ev.callV (ci := 10) (v := mX10_goesOn) (As := [.int 0, .int x2]) (st := []) okX10_goesOn wd_736 wd_737 wd_738 (am_dt kX10_turns 10 rfl) (by decide) rfl rfl (Nat.le_of_ble_eq_true rfl) (Nat.le_of_ble_eq_true rfl) f8 ?_
  refine EvM.mono k (fun r10 h9 k => ?_)
  obtain ⟨rfl, k⟩ := k
  show Ev w _ _ _ 17 _ [] _ _
  refine Ev.aload_n 1 (am_dt kX10_turns 11 rfl) rfl rfl ?_
  obtain ⟨f11, k⟩ := k
  obtain ⟨f12, k⟩ := k
  refine Ev.getR (ci := 10) (k := 42) (am_dt kX10_turns 12 rfl) (by decide) (by decide) rfl wd_571 f11 f12 ?_
  refine Ev.iload_n 2 (am_dt kX10_turns 13 rfl) rfl rfl ?_
  refine Ev.bipush (v := (-2)) (am_dt kX10_turns 14 rfl) (by decide) ?_
  obtain ⟨f13, k⟩ := k
  obtain ⟨f14, k⟩ := k
  refine Ev.iast' (am_dt kX10_turns 15 rfl) f13 f14 (fun h15 eh15 => ?_)
  have k := k h15 eh15
  have f11 := kI eh15 f11
  have f13 := kI eh15 f13
  refine Ev.aload_n 1 (am_dt kX10_turns 16 rfl) rfl rfl ?_
  refine Ev.iload_n 3 (am_dt kX10_turns 17 rfl) rfl rfl ?_
  refine Ev.iconst (v := 1) (am_dt kX10_turns 18 rfl) (by decide) ?_
  refine Ev.iadd (am_dt kX10_turns 19 rfl) ?_
  refine Ev.sipush (v := 1439) (am_dt kX10_turns 20 rfl) (by decide) ?_
  refine Ev.callV (ci := 10) (v := mX10_goesOn) (As := [.int (x2 + 1), .int 1439]) (st := []) okX10_goesOn wd_736 wd_737 wd_738 (am_dt kX10_turns 21 rfl) (by decide) rfl rfl (Nat.le_of_ble_eq_true rfl) (Nat.le_of_ble_eq_true rfl) f11 ?_
  refine EvM.mono k (fun r17 h16 k => ?_)
  obtain ⟨rfl, k⟩ := k
  show Ev w _ _ _ 35 _ [] _ _
  refine Ev.iload_n 0 (am_dt kX10_turns 22 rfl) rfl rfl ?_
  refine Ev.aload_n 1 (am_dt kX10_turns 23 rfl) rfl rfl ?_
  refine Ev.iload_n 2 (am_dt kX10_turns 24 rfl) rfl rfl ?_
  obtain ⟨f18, k⟩ := k
  refine Ev.callV (ci := 10) (v := mX10_costAll) (As := [.int x1]) (st := [.int v4]) okX10_costAll wd_745 wd_746 wd_747 (am_dt kX10_turns 25 rfl) (by decide) rfl rfl (Nat.le_of_ble_eq_true rfl) (Nat.le_of_ble_eq_true rfl) f18 ?_
  refine EvM.mono k (fun r20 h19 k => ?_)
  obtain ⟨v21, rfl, k⟩ := k
  show Ev w _ _ _ 41 _ [.int v21, .int v4] _ _
  refine Ev.isub (am_dt kX10_turns 26 rfl) ?_
  exact Ev.iret .int (am_dt kX10_turns 27 rfl) rfl rfl k
set_option maxRecDepth 20000 in
set_option maxHeartbeats 2000000 in
theorem bX10_turn_0 {w : am_W} {d : Nat} {h : am_H} {Q : Option Value → am_H → Prop} {a0 : Nat} {x1 : Int32} {x2 : Int32}  (k : (hK h a0 = 10) ∧ (EvM w mX10_canTurn d [.ref a0, .int x1, .int x2] h (fun r3 h2 => ∃ v4 : Int32, r3 = some (.int v4) ∧ ((v4 = 0 → ((hK h2 a0 = 10) ∧ (∀ h6 : am_H, h6 = sI h2 a0 0 1 → (((hI h6 a0 0) = 1 → (Q (some (.int 0)) h6)) ∧ (¬ (hI h6 a0 0) = 1 → (EvM w mX10_turns d [.ref a0, .int x1, .int x2] h6 (fun r8 h7 => ∃ v9 : Int32, r8 = some (.int v9) ∧ (Q (some (.int v9)) h7)))))))) ∧ (¬ v4 = 0 → ((hK h2 a0 = 10) ∧ (∀ h11 : am_H, h11 = sI h2 a0 0 0 → (((hI h11 a0 0) = 1 → (Q (some (.int 0)) h11)) ∧ (¬ (hI h11 a0 0) = 1 → (EvM w mX10_turns d [.ref a0, .int x1, .int x2] h11 (fun r13 h12 => ∃ v14 : Int32, r13 = some (.int v14) ∧ (Q (some (.int v14)) h12)))))))))))) : EvM w mX10_turn (d + 1) [.ref a0, .int x1, .int x2] h Q := by
  show Ev w (am_Z w) mX10_turn (d + 1) 0 [(0, .ref a0), (1, .int x1), (2, .int x2)] [] h Q
  refine Ev.aload_n 0 (am_dt kX10_turn 0 rfl) rfl rfl ?_
  refine Ev.aload_n 0 (am_dt kX10_turn 1 rfl) rfl rfl ?_
  refine Ev.iload_n 1 (am_dt kX10_turn 2 rfl) rfl rfl ?_
  refine Ev.iload_n 2 (am_dt kX10_turn 3 rfl) rfl rfl ?_
  obtain ⟨f1, k⟩ := k
  refine Ev.callV (ci := 10) (v := mX10_canTurn) (As := [.int x1, .int x2]) (st := [.ref a0]) okX10_canTurn wd_756 wd_757 wd_758 (am_dt kX10_turn 4 rfl) (by decide) rfl rfl (Nat.le_of_ble_eq_true rfl) (Nat.le_of_ble_eq_true rfl) f1 ?_
  refine EvM.mono k (fun r3 h2 k => ?_)
  obtain ⟨v4, rfl, k⟩ := k
  show Ev w _ _ _ 7 _ [.int v4, .ref a0] _ _
  refine Ev.if_eq (tgt := 14) (am_dt kX10_turn 5 rfl) (by decide) (fun c => ?_) (fun c => ?_)
  · have k := k.1 c
    refine Ev.iconst (v := 1) (am_dt kX10_turn 8 rfl) (by decide) ?_
    obtain ⟨f5, k⟩ := k
    refine Ev.putI' (ci := 10) (k := 0) (am_dt kX10_turn 9 rfl) (by decide) (by decide) wd_583 rfl rfl rfl rfl f5 (fun h6 eh6 => ?_)
    have k := k h6 eh6
    have f5 := kI eh6 f5
    refine Ev.aload_n 0 (am_dt kX10_turn 10 rfl) rfl rfl ?_
    refine Ev.getI (ci := 10) (k := 0) (am_dt kX10_turn 11 rfl) (by decide) (by decide) rfl wd_583 f5 ?_
    refine Ev.iconst (v := 1) (am_dt kX10_turn 12 rfl) (by decide) ?_
    refine Ev.icmp_ne (tgt := 30) (am_dt kX10_turn 13 rfl) (by decide) (fun c => ?_) (fun c => ?_)
    · have k := k.2 c
      refine Ev.aload_n 0 (am_dt kX10_turn 16 rfl) rfl rfl ?_
      refine Ev.iload_n 1 (am_dt kX10_turn 17 rfl) rfl rfl ?_
      refine Ev.iload_n 2 (am_dt kX10_turn 18 rfl) rfl rfl ?_
      refine Ev.callV (ci := 10) (v := mX10_turns) (As := [.int x1, .int x2]) (st := []) okX10_turns wd_759 wd_760 wd_761 (am_dt kX10_turn 19 rfl) (by decide) rfl rfl (Nat.le_of_ble_eq_true rfl) (Nat.le_of_ble_eq_true rfl) f5 ?_
      refine EvM.mono k (fun r8 h7 k => ?_)
      obtain ⟨v9, rfl, k⟩ := k
      show Ev w _ _ _ 36 _ [.int v9] _ _
      exact Ev.iret .int (am_dt kX10_turn 20 rfl) rfl rfl k
    · have k := k.1 c
      refine Ev.iconst (v := 0) (am_dt kX10_turn 14 rfl) (by decide) ?_
      refine Ev.goto (tgt := 36) (am_dt kX10_turn 15 rfl) (by decide) ?_
      exact Ev.iret .int (am_dt kX10_turn 20 rfl) rfl rfl k
  · have k := k.2 c
    refine Ev.iconst (v := 0) (am_dt kX10_turn 6 rfl) (by decide) ?_
    refine Ev.goto (tgt := 15) (am_dt kX10_turn 7 rfl) (by decide) ?_
    obtain ⟨f10, k⟩ := k
    refine Ev.putI' (ci := 10) (k := 0) (am_dt kX10_turn 9 rfl) (by decide) (by decide) wd_583 rfl rfl rfl rfl f10 (fun h11 eh11 => ?_)
    have k := k h11 eh11
    have f10 := kI eh11 f10
    refine Ev.aload_n 0 (am_dt kX10_turn 10 rfl) rfl rfl ?_
    refine Ev.getI (ci := 10) (k := 0) (am_dt kX10_turn 11 rfl) (by decide) (by decide) rfl wd_583 f10 ?_
    refine Ev.iconst (v := 1) (am_dt kX10_turn 12 rfl) (by decide) ?_
    refine Ev.icmp_ne (tgt := 30) (am_dt kX10_turn 13 rfl) (by decide) (fun c => ?_) (fun c => ?_)
    · have k := k.2 c
      refine Ev.aload_n 0 (am_dt kX10_turn 16 rfl) rfl rfl ?_
      refine Ev.iload_n 1 (am_dt kX10_turn 17 rfl) rfl rfl ?_
      refine Ev.iload_n 2 (am_dt kX10_turn 18 rfl) rfl rfl ?_
      refine Ev.callV (ci := 10) (v := mX10_turns) (As := [.int x1, .int x2]) (st := []) okX10_turns wd_759 wd_760 wd_761 (am_dt kX10_turn 19 rfl) (by decide) rfl rfl (Nat.le_of_ble_eq_true rfl) (Nat.le_of_ble_eq_true rfl) f10 ?_
      refine EvM.mono k (fun r13 h12 k => ?_)
      obtain ⟨v14, rfl, k⟩ := k
      show Ev w _ _ _ 36 _ [.int v14] _ _
      exact Ev.iret .int (am_dt kX10_turn 20 rfl) rfl rfl k
    · have k := k.1 c
      refine Ev.iconst (v := 0) (am_dt kX10_turn 14 rfl) (by decide) ?_
      refine Ev.goto (tgt := 36) (am_dt kX10_turn 15 rfl) (by decide) ?_
      exact Ev.iret .int (am_dt kX10_turn 20 rfl) rfl rfl k
