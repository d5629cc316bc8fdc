set_option maxRecDepth 20000 in
set_option maxHeartbeats 2000000 in
theorem bX10_opens_0 {w : am_W} {d : Nat} {h : am_H} {Q : Option Value → am_H → Prop} {a0 : Nat} {x1 : Int32}  (k : (am_L 10 a0 h) ∧ ((vp_in x1 (hN h (a0 + 16))) ∧ (∀ h3 : am_H, h3 = sI h (a0 + 16) (Int32.toNatClampNeg x1) 0 → ((vp_in x1 (hN h3 (a0 + 18))) ∧ (∀ h5 : am_H, h5 = sI h3 (a0 + 18) (Int32.toNatClampNeg x1) 0 → ((vp_in x1 (hN h5 (a0 + 19))) ∧ (∀ h7 : am_H, h7 = sI h5 (a0 + 19) (Int32.toNatClampNeg x1) 0 → ((vp_in x1 (hN h7 (a0 + 20))) ∧ (∀ h9 : am_H, h9 = sI h7 (a0 + 20) (Int32.toNatClampNeg x1) 20 → ((vp_in x1 (hN h9 (a0 + 22))) ∧ (∀ h11 : am_H, h11 = sI h9 (a0 + 22) (Int32.toNatClampNeg x1) 0 → (Q none h11)))))))))))) : EvM w mX10_opens d [.ref a0, .int x1] h Q := by
  show Ev w (am_Z w) mX10_opens d 0 [(0, .ref a0), (1, .int x1)] [] h Q
  refine Ev.aload_n 0 (am_dt kX10_opens 0 rfl) rfl rfl ?_
  obtain ⟨f1, k⟩ := k
  refine Ev.getRe (ci := 10) (k := 26) (r := a0 + 16) (am_dt kX10_opens 1 rfl) (by decide) (by decide) rfl wd_557 f1.1 (am_L.r f1 15 rfl) (by omega) ?_
  refine Ev.iload_n 1 (am_dt kX10_opens 2 rfl) rfl rfl ?_
  refine Ev.iconst (v := 0) (am_dt kX10_opens 3 rfl) (by decide) ?_
  obtain ⟨f2, k⟩ := k
  refine Ev.iast' (am_dt kX10_opens 4 rfl) (am_L.s f1 15 rfl) f2 (fun h3 eh3 => ?_)
  have k := k h3 eh3
  have f1 := am_LsI eh3 f1
  refine Ev.aload_n 0 (am_dt kX10_opens 5 rfl) rfl rfl ?_
  refine Ev.getRe (ci := 10) (k := 28) (r := a0 + 18) (am_dt kX10_opens 6 rfl) (by decide) (by decide) rfl wd_559 f1.1 (am_L.r f1 17 rfl) (by omega) ?_
  refine Ev.iload_n 1 (am_dt kX10_opens 7 rfl) rfl rfl ?_
  refine Ev.iconst (v := 0) (am_dt kX10_opens 8 rfl) (by decide) ?_
  obtain ⟨f4, k⟩ := k
  refine Ev.iast' (am_dt kX10_opens 9 rfl) (am_L.s f1 17 rfl) f4 (fun h5 eh5 => ?_)
  have k := k h5 eh5
  have f1 := am_LsI eh5 f1
  refine Ev.aload_n 0 (am_dt kX10_opens 10 rfl) rfl rfl ?_
  refine Ev.getRe (ci := 10) (k := 29) (r := a0 + 19) (am_dt kX10_opens 11 rfl) (by decide) (by decide) rfl wd_560 f1.1 (am_L.r f1 18 rfl) (by omega) ?_
  refine Ev.iload_n 1 (am_dt kX10_opens 12 rfl) rfl rfl ?_
  refine Ev.iconst (v := 0) (am_dt kX10_opens 13 rfl) (by decide) ?_
  obtain ⟨f6, k⟩ := k
  refine Ev.iast' (am_dt kX10_opens 14 rfl) (am_L.s f1 18 rfl) f6 (fun h7 eh7 => ?_)
  have k := k h7 eh7
  have f1 := am_LsI eh7 f1
  refine Ev.aload_n 0 (am_dt kX10_opens 15 rfl) rfl rfl ?_
  refine Ev.getRe (ci := 10) (k := 30) (r := a0 + 20) (am_dt kX10_opens 16 rfl) (by decide) (by decide) rfl wd_561 f1.1 (am_L.r f1 19 rfl) (by omega) ?_
  refine Ev.iload_n 1 (am_dt kX10_opens 17 rfl) rfl rfl ?_
  refine Ev.bipush (v := 20) (am_dt kX10_opens 18 rfl) (by decide) ?_
  obtain ⟨f8, k⟩ := k
  refine Ev.iast' (am_dt kX10_opens 19 rfl) (am_L.s f1 19 rfl) f8 (fun h9 eh9 => ?_)
  have k := k h9 eh9
  have f1 := am_LsI eh9 f1
  refine Ev.aload_n 0 (am_dt kX10_opens 20 rfl) rfl rfl ?_
  refine Ev.getRe (ci := 10) (k := 32) (r := a0 + 22) (am_dt kX10_opens 21 rfl) (by decide) (by decide) rfl wd_563 f1.1 (am_L.r f1 21 rfl) (by omega) ?_
  refine Ev.iload_n 1 (am_dt kX10_opens 22 rfl) rfl rfl ?_
  refine Ev.iconst (v := 0) (am_dt kX10_opens 23 rfl) (by decide) ?_
  obtain ⟨f10, k⟩ := k
  refine Ev.iast' (am_dt kX10_opens 24 rfl) (am_L.s f1 21 rfl) f10 (fun h11 eh11 => ?_)
  have k := k h11 eh11
  have f1 := am_LsI eh11 f1
  exact Ev.vret (am_dt kX10_opens 25 rfl) rfl k
set_option maxRecDepth 20000 in
set_option maxHeartbeats 2000000 in
theorem bX10_sums_0 {w : am_W} {d : Nat} {h : am_H} {Q : Option Value → am_H → Prop} {a0 : Nat} {x1 : Int32}  (k : (am_L 10 a0 h) ∧ ((vp_in x1 (hN h (a0 + 20))) ∧ (((hI h (a0 + 20) (Int32.toNatClampNeg x1)) = 21 → ((vp_in x1 (hN h (a0 + 19))) ∧ ((vp_in x1 (hN h (a0 + 21))) ∧ ((vp_in x1 (hN h (a0 + 19))) ∧ (∀ h6 : am_H, h6 = sI h (a0 + 19) (Int32.toNatClampNeg x1) ((hI h (a0 + 19) (Int32.toNatClampNeg x1)) - (hI h (a0 + 21) (Int32.toNatClampNeg x1))) → ((vp_in x1 (hN h6 (a0 + 22))) ∧ (∀ h8 : am_H, h8 = sI h6 (a0 + 22) (Int32.toNatClampNeg x1) 0 → (Q none h8)))))))) ∧ (¬ (hI h (a0 + 20) (Int32.toNatClampNeg x1)) = 21 → ((vp_in x1 (hN h (a0 + 19))) ∧ ((vp_in x1 (hN h (a0 + 21))) ∧ ((vp_in x1 (hN h (a0 + 19))) ∧ (∀ h12 : am_H, h12 = sI h (a0 + 19) (Int32.toNatClampNeg x1) ((hI h (a0 + 19) (Int32.toNatClampNeg x1)) + (hI h (a0 + 21) (Int32.toNatClampNeg x1))) → ((vp_in x1 (hN h12 (a0 + 22))) ∧ (∀ h14 : am_H, h14 = sI h12 (a0 + 22) (Int32.toNatClampNeg x1) 0 → (Q none h14))))))))))) : EvM w mX10_sums d [.ref a0, .int x1] h Q := by
  show Ev w (am_Z w) mX10_sums d 0 [(0, .ref a0), (1, .int x1)] [] h Q
  refine Ev.aload_n 0 (am_dt kX10_sums 0 rfl) rfl rfl ?_
  obtain ⟨f1, k⟩ := k
  refine Ev.getRe (ci := 10) (k := 29) (r := a0 + 19) (am_dt kX10_sums 1 rfl) (by decide) (by decide) rfl wd_560 f1.1 (am_L.r f1 18 rfl) (by omega) ?_
  refine Ev.iload_n 1 (am_dt kX10_sums 2 rfl) rfl rfl ?_
  refine Ev.aload_n 0 (am_dt kX10_sums 3 rfl) rfl rfl ?_
  refine Ev.getRe (ci := 10) (k := 30) (r := a0 + 20) (am_dt kX10_sums 4 rfl) (by decide) (by decide) rfl wd_561 f1.1 (am_L.r f1 19 rfl) (by omega) ?_
  refine Ev.iload_n 1 (am_dt kX10_sums 5 rfl) rfl rfl ?_
  obtain ⟨f2, k⟩ := k
  refine Ev.iald (am_dt kX10_sums 6 rfl) (am_L.s f1 19 rfl) f2 ?_
  refine Ev.bipush (v := 21) (am_dt kX10_sums 7 rfl) (by decide) ?_
  refine Ev.icmp_ne (tgt := 32) (am_dt kX10_sums 8 rfl) (by decide) (fun c => ?_) (fun c => ?_)
  · have k := k.2 c
    refine Ev.aload_n 0 (am_dt kX10_sums 19 rfl) rfl rfl ?_
    refine Ev.getRe (ci := 10) (k := 29) (r := a0 + 19) (am_dt kX10_sums 20 rfl) (by decide) (by decide) rfl wd_560 f1.1 (am_L.r f1 18 rfl) (by omega) ?_
    refine Ev.iload_n 1 (am_dt kX10_sums 21 rfl) rfl rfl ?_
    obtain ⟨f9, k⟩ := k
    refine Ev.iald (am_dt kX10_sums 22 rfl) (am_L.s f1 18 rfl) f9 ?_
    refine Ev.aload_n 0 (am_dt kX10_sums 23 rfl) rfl rfl ?_
    refine Ev.getRe (ci := 10) (k := 31) (r := a0 + 21) (am_dt kX10_sums 24 rfl) (by decide) (by decide) rfl wd_562 f1.1 (am_L.r f1 20 rfl) (by omega) ?_
    refine Ev.iload_n 1 (am_dt kX10_sums 25 rfl) rfl rfl ?_
    obtain ⟨f10, k⟩ := k
    refine Ev.iald (am_dt kX10_sums 26 rfl) (am_L.s f1 20 rfl) f10 ?_
    refine Ev.iadd (am_dt kX10_sums 27 rfl) ?_
    obtain ⟨f11, k⟩ := k
    refine Ev.iast' (am_dt kX10_sums 28 rfl) (am_L.s f1 18 rfl) f11 (fun h12 eh12 => ?_)
    have k := k h12 eh12
    have f1 := am_LsI eh12 f1
    refine Ev.aload_n 0 (am_dt kX10_sums 29 rfl) rfl rfl ?_
    refine Ev.getRe (ci := 10) (k := 32) (r := a0 + 22) (am_dt kX10_sums 30 rfl) (by decide) (by decide) rfl wd_563 f1.1 (am_L.r f1 21 rfl) (by omega) ?_
    refine Ev.iload_n 1 (am_dt kX10_sums 31 rfl) rfl rfl ?_
    refine Ev.iconst (v := 0) (am_dt kX10_sums 32 rfl) (by decide) ?_
    obtain ⟨f13, k⟩ := k
    refine Ev.iast' (am_dt kX10_sums 33 rfl) (am_L.s f1 21 rfl) f13 (fun h14 eh14 => ?_)
    have k := k h14 eh14
    have f1 := am_LsI eh14 f1
    exact Ev.vret (am_dt kX10_sums 34 rfl) rfl k
  · have k := k.1 c
    refine Ev.aload_n 0 (am_dt kX10_sums 9 rfl) rfl rfl ?_
    refine Ev.getRe (ci := 10) (k := 29) (r := a0 + 19) (am_dt kX10_sums 10 rfl) (by decide) (by decide) rfl wd_560 f1.1 (am_L.r f1 18 rfl) (by omega) ?_
    refine Ev.iload_n 1 (am_dt kX10_sums 11 rfl) rfl rfl ?_
    obtain ⟨f3, k⟩ := k
    refine Ev.iald (am_dt kX10_sums 12 rfl) (am_L.s f1 18 rfl) f3 ?_
    refine Ev.aload_n 0 (am_dt kX10_sums 13 rfl) rfl rfl ?_
    refine Ev.getRe (ci := 10) (k := 31) (r := a0 + 21) (am_dt kX10_sums 14 rfl) (by decide) (by decide) rfl wd_562 f1.1 (am_L.r f1 20 rfl) (by omega) ?_
    refine Ev.iload_n 1 (am_dt kX10_sums 15 rfl) rfl rfl ?_
    obtain ⟨f4, k⟩ := k
    refine Ev.iald (am_dt kX10_sums 16 rfl) (am_L.s f1 20 rfl) f4 ?_
    refine Ev.isub (am_dt kX10_sums 17 rfl) ?_
    refine Ev.goto (tgt := 45) (am_dt kX10_sums 18 rfl) (by decide) ?_
    obtain ⟨f5, k⟩ := k
    refine Ev.iast' (am_dt kX10_sums 28 rfl) (am_L.s f1 18 rfl) f5 (fun h6 eh6 => ?_)
    have k := k h6 eh6
    have f1 := am_LsI eh6 f1
    refine Ev.aload_n 0 (am_dt kX10_sums 29 rfl) rfl rfl ?_
    refine Ev.getRe (ci := 10) (k := 32) (r := a0 + 22) (am_dt kX10_sums 30 rfl) (by decide) (by decide) rfl wd_563 f1.1 (am_L.r f1 21 rfl) (by omega) ?_
    refine Ev.iload_n 1 (am_dt kX10_sums 31 rfl) rfl rfl ?_
    refine Ev.iconst (v := 0) (am_dt kX10_sums 32 rfl) (by decide) ?_
    obtain ⟨f7, k⟩ := k
    refine Ev.iast' (am_dt kX10_sums 33 rfl) (am_L.s f1 21 rfl) f7 (fun h8 eh8 => ?_)
    have k := k h8 eh8
    have f1 := am_LsI eh8 f1
    exact Ev.vret (am_dt kX10_sums 34 rfl) rfl k
set_option maxRecDepth 20000 in
set_option maxHeartbeats 2000000 in
theorem bX10_tests_0 {w : am_W} {d : Nat} {h : am_H} {Q : Option Value → am_H → Prop} {a0 : Nat} {x1 : Int32}  (k : (am_L 10 a0 h) ∧ (EvM w mX10_sums d [.ref a0, .int x1] h (fun r3 h2 => r3 = none ∧ ((am_L 10 a0 h2) ∧ ((vp_in x1 (hN h2 (a0 + 19))) ∧ ((vp_in x1 (hN h2 (a0 + 18))) ∧ (((hI h2 (a0 + 18) (Int32.toNatClampNeg x1)) = 24 → ((vp_in x1 (hN h2 (a0 + 17))) ∧ ((vp_in x1 (hN h2 (a0 + 19))) ∧ (((hI h2 (a0 + 19) (Int32.toNatClampNeg x1)) ≤ (hI h2 (a0 + 17) (Int32.toNatClampNeg x1)) → (Ev w (am_Z w) mX10_tests (d + 1) 44 [(0, .ref a0), (1, .int x1), (2, .int 0)] [] h2 Q)) ∧ (¬ (hI h2 (a0 + 19) (Int32.toNatClampNeg x1)) ≤ (hI h2 (a0 + 17) (Int32.toNatClampNeg x1)) → (Ev w (am_Z w) mX10_tests (d + 1) 44 [(0, .ref a0), (1, .int x1), (2, .int 1)] [] h2 Q)))))) ∧ (¬ (hI h2 (a0 + 18) (Int32.toNatClampNeg x1)) = 24 → (Ev w (am_Z w) mX10_tests (d + 1) 44 [(0, .ref a0), (1, .int x1), (2, .int (hI h2 (a0 + 19) (Int32.toNatClampNeg x1)))] [] h2 Q))))))))) : EvM w mX10_tests (d + 1) [.ref a0, .int x1] h Q := by
  show Ev w (am_Z w) mX10_tests (d + 1) 0 [(0, .ref a0), (1, .int x1)] [] h Q
  refine Ev.aload_n 0 (am_dt kX10_tests 0 rfl) rfl rfl ?_
  refine Ev.iload_n 1 (am_dt kX10_tests 1 rfl) rfl rfl ?_
  obtain ⟨f1, k⟩ := k
  refine Ev.callV (ci := 10) (v := mX10_sums) (As := [.int x1]) (st := []) okX10_sums wd_626 wd_627 wd_628 (am_dt kX10_tests 2 rfl) (by decide) rfl rfl (Nat.le_of_ble_eq_true rfl) (Nat.le_of_ble_eq_true rfl) f1.1 ?_
  refine EvM.mono k (fun r3 h2 k => ?_)
  obtain ⟨rfl, k⟩ := k
  show Ev w _ _ _ 5 _ [] _ _
  refine Ev.aload_n 0 (am_dt kX10_tests 3 rfl) rfl rfl ?_
  obtain ⟨f4, k⟩ := k
  refine Ev.getRe (ci := 10) (k := 29) (r := a0 + 19) (am_dt kX10_tests 4 rfl) (by decide) (by decide) rfl wd_560 f4.1 (am_L.r f4 18 rfl) (by omega) ?_
  refine Ev.iload_n 1 (am_dt kX10_tests 5 rfl) rfl rfl ?_
  obtain ⟨f5, k⟩ := k
  refine Ev.iald (am_dt kX10_tests 6 rfl) (am_L.s f4 18 rfl) f5 ?_
  refine Ev.istore_n (lv' := [(2, .int (hI h2 (a0 + 19) (Int32.toNatClampNeg x1))), (0, .ref a0), (1, .int x1)]) (am_dt kX10_tests 7 rfl) rfl (by decide) rfl ?_
  refine Ev.aload_n 1 (am_dt kX10_tests 8 rfl) rfl rfl ?_
  refine Ev.getRe (ci := 10) (k := 28) (r := a0 + 18) (am_dt kX10_tests 9 rfl) (by decide) (by decide) rfl wd_559 f4.1 (am_L.r f4 17 rfl) (by omega) ?_
  refine Ev.iload_n 2 (am_dt kX10_tests 10 rfl) rfl rfl ?_
  obtain ⟨f6, k⟩ := k
  refine Ev.iald (am_dt kX10_tests 11 rfl) (am_L.s f4 17 rfl) f6 ?_
  refine Ev.bipush (v := 24) (am_dt kX10_tests 12 rfl) (by decide) ?_
  refine Ev.icmp_ne (tgt := 44) (am_dt kX10_tests 13 rfl) (by decide) (fun c => ?_) (fun c => ?_)
  · have k := k.2 c
    exact Ev.sub [1, 2, 0] rfl k
  · have k := k.1 c
    refine Ev.aload_n 1 (am_dt kX10_tests 14 rfl) rfl rfl ?_
    refine Ev.getRe (ci := 10) (k := 27) (r := a0 + 17) (am_dt kX10_tests 15 rfl) (by decide) (by decide) rfl wd_558 f4.1 (am_L.r f4 16 rfl) (by omega) ?_
    refine Ev.iload_n 2 (am_dt kX10_tests 16 rfl) rfl rfl ?_
    obtain ⟨f7, k⟩ := k
    refine Ev.iald (am_dt kX10_tests 17 rfl) (am_L.s f4 16 rfl) f7 ?_
    refine Ev.aload_n 1 (am_dt kX10_tests 18 rfl) rfl rfl ?_
    refine Ev.getRe (ci := 10) (k := 29) (r := a0 + 19) (am_dt kX10_tests 19 rfl) (by decide) (by decide) rfl wd_560 f4.1 (am_L.r f4 18 rfl) (by omega) ?_
    refine Ev.iload_n 2 (am_dt kX10_tests 20 rfl) rfl rfl ?_
    obtain ⟨f8, k⟩ := k
    refine Ev.iald (am_dt kX10_tests 21 rfl) (am_L.s f4 18 rfl) f8 ?_
    refine Ev.icmp_ge (tgt := 42) (am_dt kX10_tests 22 rfl) (by decide) (fun c => ?_) (fun c => ?_)
    · have k := k.1 c
      refine Ev.iconst (v := 0) (am_dt kX10_tests 25 rfl) (by decide) ?_
      refine Ev.istore_n (lv' := [(2, .int 0), (0, .ref a0), (1, .int x1)]) (am_dt kX10_tests 26 rfl) rfl (by decide) rfl ?_
      exact Ev.sub [1, 2, 0] rfl k
    · have k := k.2 c
      refine Ev.iconst (v := 1) (am_dt kX10_tests 23 rfl) (by decide) ?_
      refine Ev.goto (tgt := 43) (am_dt kX10_tests 24 rfl) (by decide) ?_
      refine Ev.istore_n (lv' := [(2, .int 1), (0, .ref a0), (1, .int x1)]) (am_dt kX10_tests 26 rfl) rfl (by decide) rfl ?_
      exact Ev.sub [1, 2, 0] rfl k
set_option maxRecDepth 20000 in
set_option maxHeartbeats 2000000 in
theorem bX10_tests_44 {w : am_W} {d : Nat} {h : am_H} {Q : Option Value → am_H → Prop} {a0 : Nat} {x1 : Int32} {x2 : Int32}  (k : (am_L 10 a0 h) ∧ ((vp_in x1 (hN h (a0 + 18))) ∧ (((hI h (a0 + 18) (Int32.toNatClampNeg x1)) = 25 → ((vp_in x1 (hN h (a0 + 17))) ∧ ((vp_in x1 (hN h (a0 + 19))) ∧ (((hI h (a0 + 17) (Int32.toNatClampNeg x1)) = (hI h (a0 + 19) (Int32.toNatClampNeg x1)) → (Ev w (am_Z w) mX10_tests (d + 1) 76 [(0, .ref a0), (1, .int x1), (2, .int 1)] [] h Q)) ∧ (¬ (hI h (a0 + 17) (Int32.toNatClampNeg x1)) = (hI h (a0 + 19) (Int32.toNatClampNeg x1)) → (Ev w (am_Z w) mX10_tests (d + 1) 76 [(0, .ref a0), (1, .int x1), (2, .int 0)] [] h Q)))))) ∧ (¬ (hI h (a0 + 18) (Int32.toNatClampNeg x1)) = 25 → (Ev w (am_Z w) mX10_tests (d + 1) 76 [(0, .ref a0), (1, .int x1), (2, .int x2)] [] h Q))))) : Ev w (am_Z w) mX10_tests (d + 1) 44 [(0, .ref a0), (1, .int x1), (2, .int x2)] [] h Q := by
  refine Ev.aload_n 0 (am_dt kX10_tests 27 rfl) rfl rfl ?_
  obtain ⟨f1, k⟩ := k
  refine Ev.getRe (ci := 10) (k := 28) (r := a0 + 18) (am_dt kX10_tests 28 rfl) (by decide) (by decide) rfl wd_559 f1.1 (am_L.r f1 17 rfl) (by omega) ?_
  refine Ev.iload_n 1 (am_dt kX10_tests 29 rfl) rfl rfl ?_
  obtain ⟨f2, k⟩ := k
  refine Ev.iald (am_dt kX10_tests 30 rfl) (am_L.s f1 17 rfl) f2 ?_
  refine Ev.bipush (v := 25) (am_dt kX10_tests 31 rfl) (by decide) ?_
  refine Ev.icmp_ne (tgt := 76) (am_dt kX10_tests 32 rfl) (by decide) (fun c => ?_) (fun c => ?_)
  · have k := k.2 c
    exact k
  · have k := k.1 c
    refine Ev.aload_n 0 (am_dt kX10_tests 33 rfl) rfl rfl ?_
    refine Ev.getRe (ci := 10) (k := 27) (r := a0 + 17) (am_dt kX10_tests 34 rfl) (by decide) (by decide) rfl wd_558 f1.1 (am_L.r f1 16 rfl) (by omega) ?_
    refine Ev.iload_n 1 (am_dt kX10_tests 35 rfl) rfl rfl ?_
    obtain ⟨f3, k⟩ := k
    refine Ev.iald (am_dt kX10_tests 36 rfl) (am_L.s f1 16 rfl) f3 ?_
    refine Ev.aload_n 0 (am_dt kX10_tests 37 rfl) rfl rfl ?_
    refine Ev.getRe (ci := 10) (k := 29) (r := a0 + 19) (am_dt kX10_tests 38 rfl) (by decide) (by decide) rfl wd_560 f1.1 (am_L.r f1 18 rfl) (by omega) ?_
    refine Ev.iload_n 1 (am_dt kX10_tests 39 rfl) rfl rfl ?_
    obtain ⟨f4, k⟩ := k
    refine Ev.iald (am_dt kX10_tests 40 rfl) (am_L.s f1 18 rfl) f4 ?_
    refine Ev.icmp_ne (tgt := 74) (am_dt kX10_tests 41 rfl) (by decide) (fun c => ?_) (fun c => ?_)
    · have k := k.2 c
      refine Ev.iconst (v := 0) (am_dt kX10_tests 44 rfl) (by decide) ?_
      refine Ev.istore_n (lv' := [(2, .int 0), (0, .ref a0), (1, .int x1)]) (am_dt kX10_tests 45 rfl) rfl (by decide) rfl ?_
      exact Ev.sub [1, 2, 0] rfl k
    · have k := k.1 c
      refine Ev.iconst (v := 1) (am_dt kX10_tests 42 rfl) (by decide) ?_
      refine Ev.goto (tgt := 75) (am_dt kX10_tests 43 rfl) (by decide) ?_
      refine Ev.istore_n (lv' := [(2, .int 1), (0, .ref a0), (1, .int x1)]) (am_dt kX10_tests 45 rfl) rfl (by decide) rfl ?_
      exact Ev.sub [1, 2, 0] rfl k
set_option maxRecDepth 20000 in
set_option maxHeartbeats 2000000 in
theorem bX10_tests_76 {w : am_W} {d : Nat} {h : am_H} {Q : Option Value → am_H → Prop} {a0 : Nat} {x1 : Int32} {x2 : Int32}  (k : (am_L 10 a0 h) ∧ ((vp_in x1 (hN h (a0 + 16))) ∧ (((hI h (a0 + 16) (Int32.toNatClampNeg x1)) = 26 → ((vp_in x1 (hN h (a0 + 15))) ∧ (((hI h (a0 + 15) (Int32.toNatClampNeg x1)) = 0 → (Ev w (am_Z w) mX10_tests (d + 1) 106 [(0, .ref a0), (1, .int x1), (2, .int 0)] [] h Q)) ∧ (¬ (hI h (a0 + 15) (Int32.toNatClampNeg x1)) = 0 → ((x2 = 0 → (Ev w (am_Z w) mX10_tests (d + 1) 106 [(0, .ref a0), (1, .int x1), (2, .int 0)] [] h Q)) ∧ (¬ x2 = 0 → (Ev w (am_Z w) mX10_tests (d + 1) 106 [(0, .ref a0), (1, .int x1), (2, .int 1)] [] h Q))))))) ∧ (¬ (hI h (a0 + 16) (Int32.toNatClampNeg x1)) = 26 → (Ev w (am_Z w) mX10_tests (d + 1) 106 [(0, .ref a0), (1, .int x1), (2, .int x2)] [] h Q))))) : Ev w (am_Z w) mX10_tests (d + 1) 76 [(0, .ref a0), (1, .int x1), (2, .int x2)] [] h Q := by
  refine Ev.aload_n 0 (am_dt kX10_tests 46 rfl) rfl rfl ?_
  obtain ⟨f1, k⟩ := k
  refine Ev.getRe (ci := 10) (k := 26) (r := a0 + 16) (am_dt kX10_tests 47 rfl) (by decide) (by decide) rfl wd_557 f1.1 (am_L.r f1 15 rfl) (by omega) ?_
  refine Ev.iload_n 1 (am_dt kX10_tests 48 rfl) rfl rfl ?_
  obtain ⟨f2, k⟩ := k
  refine Ev.iald (am_dt kX10_tests 49 rfl) (am_L.s f1 15 rfl) f2 ?_
  refine Ev.bipush (v := 26) (am_dt kX10_tests 50 rfl) (by decide) ?_
  refine Ev.icmp_ne (tgt := 106) (am_dt kX10_tests 51 rfl) (by decide) (fun c => ?_) (fun c => ?_)
  · have k := k.2 c
    exact k
  · have k := k.1 c
    refine Ev.aload_n 0 (am_dt kX10_tests 52 rfl) rfl rfl ?_
    refine Ev.getRe (ci := 10) (k := 25) (r := a0 + 15) (am_dt kX10_tests 53 rfl) (by decide) (by decide) rfl wd_556 f1.1 (am_L.r f1 14 rfl) (by omega) ?_
    refine Ev.iload_n 1 (am_dt kX10_tests 54 rfl) rfl rfl ?_
    obtain ⟨f3, k⟩ := k
    refine Ev.iald (am_dt kX10_tests 55 rfl) (am_L.s f1 14 rfl) f3 ?_
    refine Ev.if_eq (tgt := 104) (am_dt kX10_tests 56 rfl) (by decide) (fun c => ?_) (fun c => ?_)
    · have k := k.1 c
      refine Ev.iconst (v := 0) (am_dt kX10_tests 61 rfl) (by decide) ?_
      refine Ev.istore_n (lv' := [(2, .int 0), (0, .ref a0), (1, .int x1)]) (am_dt kX10_tests 62 rfl) rfl (by decide) rfl ?_
      exact Ev.sub [1, 2, 0] rfl k
    · have k := k.2 c
      refine Ev.iload_n 2 (am_dt kX10_tests 57 rfl) rfl rfl ?_
      refine Ev.if_eq (tgt := 104) (am_dt kX10_tests 58 rfl) (by decide) (fun c => ?_) (fun c => ?_)
      · have k := k.1 c
        refine Ev.iconst (v := 0) (am_dt kX10_tests 61 rfl) (by decide) ?_
        refine Ev.istore_n (lv' := [(2, .int 0), (0, .ref a0), (1, .int x1)]) (am_dt kX10_tests 62 rfl) rfl (by decide) rfl ?_
        exact Ev.sub [1, 2, 0] rfl k
      · have k := k.2 c
        refine Ev.iconst (v := 1) (am_dt kX10_tests 59 rfl) (by decide) ?_
        refine Ev.goto (tgt := 105) (am_dt kX10_tests 60 rfl) (by decide) ?_
        refine Ev.istore_n (lv' := [(2, .int 1), (0, .ref a0), (1, .int x1)]) (am_dt kX10_tests 62 rfl) rfl (by decide) rfl ?_
        exact Ev.sub [1, 2, 0] rfl k
set_option maxRecDepth 20000 in
set_option maxHeartbeats 2000000 in
theorem bX10_tests_106 {w : am_W} {d : Nat} {h : am_H} {Q : Option Value → am_H → Prop} {a0 : Nat} {x1 : Int32} {x2 : Int32}  (k : (am_L 10 a0 h) ∧ ((vp_in x1 (hN h (a0 + 16))) ∧ (((hI h (a0 + 16) (Int32.toNatClampNeg x1)) = 27 → ((vp_in x1 (hN h (a0 + 15))) ∧ (((hI h (a0 + 15) (Int32.toNatClampNeg x1)) = 0 → ((x2 = 0 → (Ev w (am_Z w) mX10_tests (d + 1) 136 [(0, .ref a0), (1, .int x1), (2, .int 0)] [] h Q)) ∧ (¬ x2 = 0 → (Ev w (am_Z w) mX10_tests (d + 1) 136 [(0, .ref a0), (1, .int x1), (2, .int 1)] [] h Q)))) ∧ (¬ (hI h (a0 + 15) (Int32.toNatClampNeg x1)) = 0 → (Ev w (am_Z w) mX10_tests (d + 1) 136 [(0, .ref a0), (1, .int x1), (2, .int 1)] [] h Q))))) ∧ (¬ (hI h (a0 + 16) (Int32.toNatClampNeg x1)) = 27 → (Ev w (am_Z w) mX10_tests (d + 1) 136 [(0, .ref a0), (1, .int x1), (2, .int x2)] [] h Q))))) : Ev w (am_Z w) mX10_tests (d + 1) 106 [(0, .ref a0), (1, .int x1), (2, .int x2)] [] h Q := by
  refine Ev.aload_n 0 (am_dt kX10_tests 63 rfl) rfl rfl ?_
  obtain ⟨f1, k⟩ := k
  refine Ev.getRe (ci := 10) (k := 26) (r := a0 + 16) (am_dt kX10_tests 64 rfl) (by decide) (by decide) rfl wd_557 f1.1 (am_L.r f1 15 rfl) (by omega) ?_
  refine Ev.iload_n 1 (am_dt kX10_tests 65 rfl) rfl rfl ?_
  obtain ⟨f2, k⟩ := k
  refine Ev.iald (am_dt kX10_tests 66 rfl) (am_L.s f1 15 rfl) f2 ?_
  refine Ev.bipush (v := 27) (am_dt kX10_tests 67 rfl) (by decide) ?_
  refine Ev.icmp_ne (tgt := 136) (am_dt kX10_tests 68 rfl) (by decide) (fun c => ?_) (fun c => ?_)
  · have k := k.2 c
    exact k
  · have k := k.1 c
    refine Ev.aload_n 0 (am_dt kX10_tests 69 rfl) rfl rfl ?_
    refine Ev.getRe (ci := 10) (k := 25) (r := a0 + 15) (am_dt kX10_tests 70 rfl) (by decide) (by decide) rfl wd_556 f1.1 (am_L.r f1 14 rfl) (by omega) ?_
    refine Ev.iload_n 1 (am_dt kX10_tests 71 rfl) rfl rfl ?_
    obtain ⟨f3, k⟩ := k
    refine Ev.iald (am_dt kX10_tests 72 rfl) (am_L.s f1 14 rfl) f3 ?_
    refine Ev.if_ne (tgt := 130) (am_dt kX10_tests 73 rfl) (by decide) (fun c => ?_) (fun c => ?_)
    · have k := k.2 c
      refine Ev.iconst (v := 1) (am_dt kX10_tests 76 rfl) (by decide) ?_
      refine Ev.goto (tgt := 135) (am_dt kX10_tests 77 rfl) (by decide) ?_
      refine Ev.istore_n (lv' := [(2, .int 1), (0, .ref a0), (1, .int x1)]) (am_dt kX10_tests 79 rfl) rfl (by decide) rfl ?_
      exact Ev.sub [1, 2, 0] rfl k
    · have k := k.1 c
      refine Ev.iload_n 2 (am_dt kX10_tests 74 rfl) rfl rfl ?_
      refine Ev.if_eq (tgt := 134) (am_dt kX10_tests 75 rfl) (by decide) (fun c => ?_) (fun c => ?_)
      · have k := k.1 c
        refine Ev.iconst (v := 0) (am_dt kX10_tests 78 rfl) (by decide) ?_
        refine Ev.istore_n (lv' := [(2, .int 0), (0, .ref a0), (1, .int x1)]) (am_dt kX10_tests 79 rfl) rfl (by decide) rfl ?_
        exact Ev.sub [1, 2, 0] rfl k
      · have k := k.2 c
        refine Ev.iconst (v := 1) (am_dt kX10_tests 76 rfl) (by decide) ?_
        refine Ev.goto (tgt := 135) (am_dt kX10_tests 77 rfl) (by decide) ?_
        refine Ev.istore_n (lv' := [(2, .int 1), (0, .ref a0), (1, .int x1)]) (am_dt kX10_tests 79 rfl) rfl (by decide) rfl ?_
        exact Ev.sub [1, 2, 0] rfl k
set_option maxRecDepth 20000 in
set_option maxHeartbeats 2000000 in
theorem bX10_tests_136 {w : am_W} {d : Nat} {h : am_H} {Q : Option Value → am_H → Prop} {a0 : Nat} {x1 : Int32} {x2 : Int32}  (k : (am_L 10 a0 h) ∧ ((vp_in x1 (hN h (a0 + 15))) ∧ (∀ h3 : am_H, h3 = sI h (a0 + 15) (Int32.toNatClampNeg x1) x2 → ((vp_in x1 (hN h3 (a0 + 18))) ∧ (∀ h5 : am_H, h5 = sI h3 (a0 + 18) (Int32.toNatClampNeg x1) 0 → ((vp_in x1 (hN h5 (a0 + 19))) ∧ (∀ h7 : am_H, h7 = sI h5 (a0 + 19) (Int32.toNatClampNeg x1) 0 → ((vp_in x1 (hN h7 (a0 + 20))) ∧ (∀ h9 : am_H, h9 = sI h7 (a0 + 20) (Int32.toNatClampNeg x1) 20 → (Q none h9)))))))))) : Ev w (am_Z w) mX10_tests (d + 1) 136 [(0, .ref a0), (1, .int x1), (2, .int x2)] [] h Q := by
  refine Ev.aload_n 0 (am_dt kX10_tests 80 rfl) rfl rfl ?_
  obtain ⟨f1, k⟩ := k
  refine Ev.getRe (ci := 10) (k := 25) (r := a0 + 15) (am_dt kX10_tests 81 rfl) (by decide) (by decide) rfl wd_556 f1.1 (am_L.r f1 14 rfl) (by omega) ?_
  refine Ev.iload_n 1 (am_dt kX10_tests 82 rfl) rfl rfl ?_
  refine Ev.iload_n 2 (am_dt kX10_tests 83 rfl) rfl rfl ?_
  obtain ⟨f2, k⟩ := k
  refine Ev.iast' (am_dt kX10_tests 84 rfl) (am_L.s f1 14 rfl) f2 (fun h3 eh3 => ?_)
  have k := k h3 eh3
  have f1 := am_LsI eh3 f1
  refine Ev.aload_n 0 (am_dt kX10_tests 85 rfl) rfl rfl ?_
  refine Ev.getRe (ci := 10) (k := 28) (r := a0 + 18) (am_dt kX10_tests 86 rfl) (by decide) (by decide) rfl wd_559 f1.1 (am_L.r f1 17 rfl) (by omega) ?_
  refine Ev.iload_n 1 (am_dt kX10_tests 87 rfl) rfl rfl ?_
  refine Ev.iconst (v := 0) (am_dt kX10_tests 88 rfl) (by decide) ?_
  obtain ⟨f4, k⟩ := k
  refine Ev.iast' (am_dt kX10_tests 89 rfl) (am_L.s f1 17 rfl) f4 (fun h5 eh5 => ?_)
  have k := k h5 eh5
  have f1 := am_LsI eh5 f1
  refine Ev.aload_n 0 (am_dt kX10_tests 90 rfl) rfl rfl ?_
  refine Ev.getRe (ci := 10) (k := 29) (r := a0 + 19) (am_dt kX10_tests 91 rfl) (by decide) (by decide) rfl wd_560 f1.1 (am_L.r f1 18 rfl) (by omega) ?_
  refine Ev.iload_n 1 (am_dt kX10_tests 92 rfl) rfl rfl ?_
  refine Ev.iconst (v := 0) (am_dt kX10_tests 93 rfl) (by decide) ?_
  obtain ⟨f6, k⟩ := k
  refine Ev.iast' (am_dt kX10_tests 94 rfl) (am_L.s f1 18 rfl) f6 (fun h7 eh7 => ?_)
  have k := k h7 eh7
  have f1 := am_LsI eh7 f1
  refine Ev.aload_n 0 (am_dt kX10_tests 95 rfl) rfl rfl ?_
  refine Ev.getRe (ci := 10) (k := 30) (r := a0 + 20) (am_dt kX10_tests 96 rfl) (by decide) (by decide) rfl wd_561 f1.1 (am_L.r f1 19 rfl) (by omega) ?_
  refine Ev.iload_n 1 (am_dt kX10_tests 97 rfl) rfl rfl ?_
  refine Ev.bipush (v := 20) (am_dt kX10_tests 98 rfl) (by decide) ?_
  obtain ⟨f8, k⟩ := k
  refine Ev.iast' (am_dt kX10_tests 99 rfl) (am_L.s f1 19 rfl) f8 (fun h9 eh9 => ?_)
  have k := k h9 eh9
  have f1 := am_LsI eh9 f1
  exact Ev.vret (am_dt kX10_tests 100 rfl) rfl k
set_option maxRecDepth 20000 in
set_option maxHeartbeats 2000000 in
theorem bX10_worked_0 {w : am_W} {d : Nat} {h : am_H} {Q : Option Value → am_H → Prop} {a0 : Nat} {x1 : Int32}  (k : (am_L 10 a0 h) ∧ (EvM w mX10_opens d [.ref a0, .int 0] h (fun r3 h2 => r3 = none ∧ ((am_L 10 a0 h2) ∧ ((vp_in x1 (hN h2 (a0 + 3))) ∧ (Ev w (am_Z w) mX10_worked (d + 1) 14 [(0, .ref a0), (1, .int x1), (2, .int 0), (3, .int (hI h2 (a0 + 3) (Int32.toNatClampNeg x1)))] [] h2 Q)))))) : EvM w mX10_worked (d + 1) [.ref a0, .int x1] h Q := by
  show Ev w (am_Z w) mX10_worked (d + 1) 0 [(0, .ref a0), (1, .int x1)] [] h Q
  refine Ev.iconst (v := 0) (am_dt kX10_worked 0 rfl) (by decide) ?_
  refine Ev.istore_n (lv' := [(2, .int 0), (0, .ref a0), (1, .int x1)]) (am_dt kX10_worked 1 rfl) rfl (by decide) rfl ?_
  refine Ev.aload_n 1 (am_dt kX10_worked 2 rfl) rfl rfl ?_
  refine Ev.iconst (v := 0) (am_dt kX10_worked 3 rfl) (by decide) ?_
  obtain ⟨f1, k⟩ := k
  refine Ev.callV (ci := 10) (v := mX10_opens) (As := [.int 0]) (st := []) okX10_opens wd_629 wd_630 wd_631 (am_dt kX10_worked 4 rfl) (by decide) rfl rfl (Nat.le_of_ble_eq_true rfl) (Nat.le_of_ble_eq_true rfl) f1.1 ?_
  refine EvM.mono k (fun r3 h2 k => ?_)
  obtain ⟨rfl, k⟩ := k
  show Ev w _ _ _ 7 _ [] _ _
  refine Ev.aload_n 1 (am_dt kX10_worked 5 rfl) rfl rfl ?_
  obtain ⟨f4, k⟩ := k
  refine Ev.getRe (ci := 10) (k := 11) (r := a0 + 3) (am_dt kX10_worked 6 rfl) (by decide) (by decide) rfl wd_544 f4.1 (am_L.r f4 2 rfl) (by omega) ?_
  refine Ev.iload_n 2 (am_dt kX10_worked 7 rfl) rfl rfl ?_
  obtain ⟨f5, k⟩ := k
  refine Ev.iald (am_dt kX10_worked 8 rfl) (am_L.s f4 2 rfl) f5 ?_
  refine Ev.istore_n (lv' := [(3, .int (hI h2 (a0 + 3) (Int32.toNatClampNeg x1))), (2, .int 0), (0, .ref a0), (1, .int x1)]) (am_dt kX10_worked 9 rfl) rfl (by decide) rfl ?_
  exact Ev.sub [2, 3, 1, 0] rfl k
set_option maxRecDepth 20000 in
set_option maxHeartbeats 2000000 in
theorem bX10_worked_14 {w : am_W} {d : Nat} {h : am_H} {Q : Option Value → am_H → Prop} {a0 : Nat} {x1 : Int32} {x2 : Int32} {x3 : Int32}  (k : (am_L 10 a0 h) ∧ ((vp_in x1 (hN h (a0 + 4))) ∧ (((hI h (a0 + 4) (Int32.toNatClampNeg x1)) ≤ x3 → (EvM w mX10_tests d [.ref a0, .int 0] h (fun r4 h3 => r4 = none ∧ ((am_L 10 a0 h3) ∧ ((vp_in 0 (hN h3 (a0 + 15))) ∧ (Q (some (.int (hI h3 (a0 + 15) (Int32.toNatClampNeg 0)))) h3)))))) ∧ (¬ (hI h (a0 + 4) (Int32.toNatClampNeg x1)) ≤ x3 → ((vp_in x3 (hN h (a0 + 5))) ∧ (((hI h (a0 + 5) (Int32.toNatClampNeg x3)) = 28 → (Ev w (am_Z w) mX10_worked (d + 1) 46 [(0, .ref a0), (1, .int x1), (2, .int x2), (3, .int x3), (4, .int (hI h (a0 + 5) (Int32.toNatClampNeg x3)))] [] h Q)) ∧ (¬ (hI h (a0 + 5) (Int32.toNatClampNeg x3)) = 28 → (((hI h (a0 + 5) (Int32.toNatClampNeg x3)) = 30 → (Ev w (am_Z w) mX10_worked (d + 1) 46 [(0, .ref a0), (1, .int x1), (2, .int x2), (3, .int x3), (4, .int (hI h (a0 + 5) (Int32.toNatClampNeg x3)))] [] h Q)) ∧ (¬ (hI h (a0 + 5) (Int32.toNatClampNeg x3)) = 30 → (((hI h (a0 + 5) (Int32.toNatClampNeg x3)) = 20 → (EvM w mX10_sums d [.ref a0, .int x2] h (fun r9 h8 => r9 = none ∧ ((am_L 10 a0 h8) ∧ ((vp_in x2 (hN h8 (a0 + 20))) ∧ (∀ h12 : am_H, h12 = sI h8 (a0 + 20) (Int32.toNatClampNeg x2) (hI h (a0 + 5) (Int32.toNatClampNeg x3)) → (Ev w (am_Z w) mX10_worked (d + 1) 14 [(0, .ref a0), (1, .int x1), (2, .int x2), (3, .int (x3 + 1))] [] h12 Q))))))) ∧ (¬ (hI h (a0 + 5) (Int32.toNatClampNeg x3)) = 20 → (((hI h (a0 + 5) (Int32.toNatClampNeg x3)) = 21 → (EvM w mX10_sums d [.ref a0, .int x2] h (fun r14 h13 => r14 = none ∧ ((am_L 10 a0 h13) ∧ ((vp_in x2 (hN h13 (a0 + 20))) ∧ (∀ h17 : am_H, h17 = sI h13 (a0 + 20) (Int32.toNatClampNeg x2) (hI h (a0 + 5) (Int32.toNatClampNeg x3)) → (Ev w (am_Z w) mX10_worked (d + 1) 14 [(0, .ref a0), (1, .int x1), (2, .int x2), (3, .int (x3 + 1))] [] h17 Q))))))) ∧ (¬ (hI h (a0 + 5) (Int32.toNatClampNeg x3)) = 21 → (((hI h (a0 + 5) (Int32.toNatClampNeg x3)) = 22 → ((vp_in x2 (hN h (a0 + 22))) ∧ (∀ h19 : am_H, h19 = sI h (a0 + 22) (Int32.toNatClampNeg x2) (hI h (a0 + 5) (Int32.toNatClampNeg x3)) → (Ev w (am_Z w) mX10_worked (d + 1) 14 [(0, .ref a0), (1, .int x1), (2, .int x2), (3, .int (x3 + 1))] [] h19 Q)))) ∧ (¬ (hI h (a0 + 5) (Int32.toNatClampNeg x3)) = 22 → (((hI h (a0 + 5) (Int32.toNatClampNeg x3)) = 24 → (Ev w (am_Z w) mX10_worked (d + 1) 137 [(0, .ref a0), (1, .int x1), (2, .int x2), (3, .int x3), (4, .int (hI h (a0 + 5) (Int32.toNatClampNeg x3)))] [] h Q)) ∧ (¬ (hI h (a0 + 5) (Int32.toNatClampNeg x3)) = 24 → (((hI h (a0 + 5) (Int32.toNatClampNeg x3)) = 25 → (Ev w (am_Z w) mX10_worked (d + 1) 137 [(0, .ref a0), (1, .int x1), (2, .int x2), (3, .int x3), (4, .int (hI h (a0 + 5) (Int32.toNatClampNeg x3)))] [] h Q)) ∧ (¬ (hI h (a0 + 5) (Int32.toNatClampNeg x3)) = 25 → (((hI h (a0 + 5) (Int32.toNatClampNeg x3)) = 26 → (EvM w mX10_tests d [.ref a0, .int x2] h (fun r21 h20 => r21 = none ∧ ((am_L 10 a0 h20) ∧ ((vp_in x2 (hN h20 (a0 + 16))) ∧ (∀ h24 : am_H, h24 = sI h20 (a0 + 16) (Int32.toNatClampNeg x2) (hI h (a0 + 5) (Int32.toNatClampNeg x3)) → (Ev w (am_Z w) mX10_worked (d + 1) 14 [(0, .ref a0), (1, .int x1), (2, .int x2), (3, .int (x3 + 1))] [] h24 Q))))))) ∧ (¬ (hI h (a0 + 5) (Int32.toNatClampNeg x3)) = 26 → (((hI h (a0 + 5) (Int32.toNatClampNeg x3)) = 27 → (EvM w mX10_tests d [.ref a0, .int x2] h (fun r26 h25 => r26 = none ∧ ((am_L 10 a0 h25) ∧ ((vp_in x2 (hN h25 (a0 + 16))) ∧ (∀ h29 : am_H, h29 = sI h25 (a0 + 16) (Int32.toNatClampNeg x2) (hI h (a0 + 5) (Int32.toNatClampNeg x3)) → (Ev w (am_Z w) mX10_worked (d + 1) 14 [(0, .ref a0), (1, .int x1), (2, .int x2), (3, .int (x3 + 1))] [] h29 Q))))))) ∧ (¬ (hI h (a0 + 5) (Int32.toNatClampNeg x3)) = 27 → (((hI h (a0 + 5) (Int32.toNatClampNeg x3)) < 100 → ((20 ≤ (hI h (a0 + 5) (Int32.toNatClampNeg x3)) → (Ev w (am_Z w) mX10_worked (d + 1) 243 [(0, .ref a0), (1, .int x1), (2, .int x2), (3, .int x3), (4, .int (hI h (a0 + 5) (Int32.toNatClampNeg x3)))] [.int 0] h Q)) ∧ (¬ 20 ≤ (hI h (a0 + 5) (Int32.toNatClampNeg x3)) → ((vp_in (hI h (a0 + 5) (Int32.toNatClampNeg x3)) (hN h (a0 + 24))) ∧ (Ev w (am_Z w) mX10_worked (d + 1) 243 [(0, .ref a0), (1, .int x1), (2, .int x2), (3, .int x3), (4, .int (hI h (a0 + 5) (Int32.toNatClampNeg x3)))] [.int (hI h (a0 + 24) (Int32.toNatClampNeg (hI h (a0 + 5) (Int32.toNatClampNeg x3))))] h Q))))) ∧ (¬ (hI h (a0 + 5) (Int32.toNatClampNeg x3)) < 100 → (Ev w (am_Z w) mX10_worked (d + 1) 243 [(0, .ref a0), (1, .int x1), (2, .int x2), (3, .int x3), (4, .int (hI h (a0 + 5) (Int32.toNatClampNeg x3)))] [.int ((hI h (a0 + 5) (Int32.toNatClampNeg x3)) - 100)] h Q)))))))))))))))))))))))))) : Ev w (am_Z w) mX10_worked (d + 1) 14 [(0, .ref a0), (1, .int x1), (2, .int x2), (3, .int x3)] [] h Q := by
  refine Ev.iload_n 3 (am_dt kX10_worked 10 rfl) rfl rfl ?_
  refine Ev.aload_n 0 (am_dt kX10_worked 11 rfl) rfl rfl ?_
  obtain ⟨f1, k⟩ := k
  refine Ev.getRe (ci := 10) (k := 12) (r := a0 + 4) (am_dt kX10_worked 12 rfl) (by decide) (by decide) rfl wd_545 f1.1 (am_L.r f1 3 rfl) (by omega) ?_
  refine Ev.iload_n 1 (am_dt kX10_worked 13 rfl) rfl rfl ?_
  obtain ⟨f2, k⟩ := k
  refine Ev.iald (am_dt kX10_worked 14 rfl) (am_L.s f1 3 rfl) f2 ?_
  refine Ev.icmp_ge (tgt := 335) (am_dt kX10_worked 15 rfl) (by decide) (fun c => ?_) (fun c => ?_)
  · have k := k.1 c
    refine Ev.aload_n 0 (am_dt kX10_worked 178 rfl) rfl rfl ?_
    refine Ev.iconst (v := 0) (am_dt kX10_worked 179 rfl) (by decide) ?_
    refine Ev.callV (ci := 10) (v := mX10_tests) (As := [.int 0]) (st := []) okX10_tests wd_632 wd_633 wd_634 (am_dt kX10_worked 180 rfl) (by decide) rfl rfl (Nat.le_of_ble_eq_true rfl) (Nat.le_of_ble_eq_true rfl) f1.1 ?_
    refine EvM.mono k (fun r4 h3 k => ?_)
    obtain ⟨rfl, k⟩ := k
    show Ev w _ _ _ 340 _ [] _ _
    refine Ev.aload_n 0 (am_dt kX10_worked 181 rfl) rfl rfl ?_
    obtain ⟨f5, k⟩ := k
    refine Ev.getRe (ci := 10) (k := 25) (r := a0 + 15) (am_dt kX10_worked 182 rfl) (by decide) (by decide) rfl wd_556 f5.1 (am_L.r f5 14 rfl) (by omega) ?_
    refine Ev.iconst (v := 0) (am_dt kX10_worked 183 rfl) (by decide) ?_
    obtain ⟨f6, k⟩ := k
    refine Ev.iald (am_dt kX10_worked 184 rfl) (am_L.s f5 14 rfl) f6 ?_
    exact Ev.iret .int (am_dt kX10_worked 185 rfl) rfl rfl k
  · have k := k.2 c
    refine Ev.aload_n 0 (am_dt kX10_worked 16 rfl) rfl rfl ?_
    refine Ev.getRe (ci := 10) (k := 13) (r := a0 + 5) (am_dt kX10_worked 17 rfl) (by decide) (by decide) rfl wd_546 f1.1 (am_L.r f1 4 rfl) (by omega) ?_
    refine Ev.iload_n 3 (am_dt kX10_worked 18 rfl) rfl rfl ?_
    obtain ⟨f7, k⟩ := k
    refine Ev.iald (am_dt kX10_worked 19 rfl) (am_L.s f1 4 rfl) f7 ?_
    refine Ev.istore (lv' := [(4, .int (hI h (a0 + 5) (Int32.toNatClampNeg x3))), (0, .ref a0), (1, .int x1), (2, .int x2), (3, .int x3)]) (am_dt kX10_worked 20 rfl) (by decide) rfl ?_
    refine Ev.iload 0 (am_dt kX10_worked 21 rfl) rfl ?_
    refine Ev.bipush (v := 28) (am_dt kX10_worked 22 rfl) (by decide) ?_
    refine Ev.icmp_eq (tgt := 46) (am_dt kX10_worked 23 rfl) (by decide) (fun c => ?_) (fun c => ?_)
    · have k := k.1 c
      exact Ev.sub [1, 2, 3, 4, 0] rfl k
    · have k := k.2 c
      refine Ev.iload 0 (am_dt kX10_worked 24 rfl) rfl ?_
      refine Ev.bipush (v := 30) (am_dt kX10_worked 25 rfl) (by decide) ?_
      refine Ev.icmp_ne (tgt := 75) (am_dt kX10_worked 26 rfl) (by decide) (fun c => ?_) (fun c => ?_)
      · have k := k.2 c
        refine Ev.iload 0 (am_dt kX10_worked 42 rfl) rfl ?_
        refine Ev.bipush (v := 20) (am_dt kX10_worked 43 rfl) (by decide) ?_
        refine Ev.icmp_eq (tgt := 89) (am_dt kX10_worked 44 rfl) (by decide) (fun c => ?_) (fun c => ?_)
        · have k := k.1 c
          refine Ev.aload_n 1 (am_dt kX10_worked 48 rfl) rfl rfl ?_
          refine Ev.iload_n 3 (am_dt kX10_worked 49 rfl) rfl rfl ?_
          refine Ev.callV (ci := 10) (v := mX10_sums) (As := [.int x2]) (st := []) okX10_sums wd_626 wd_627 wd_628 (am_dt kX10_worked 50 rfl) (by decide) rfl rfl (Nat.le_of_ble_eq_true rfl) (Nat.le_of_ble_eq_true rfl) f1.1 ?_
          refine EvM.mono k (fun r9 h8 k => ?_)
          obtain ⟨rfl, k⟩ := k
          show Ev w _ _ _ 94 _ [] _ _
          refine Ev.aload_n 1 (am_dt kX10_worked 51 rfl) rfl rfl ?_
          obtain ⟨f10, k⟩ := k
          refine Ev.getRe (ci := 10) (k := 30) (r := a0 + 20) (am_dt kX10_worked 52 rfl) (by decide) (by decide) rfl wd_561 f10.1 (am_L.r f10 19 rfl) (by omega) ?_
          refine Ev.iload_n 3 (am_dt kX10_worked 53 rfl) rfl rfl ?_
          refine Ev.iload 0 (am_dt kX10_worked 54 rfl) rfl ?_
          obtain ⟨f11, k⟩ := k
          refine Ev.iast' (am_dt kX10_worked 55 rfl) (am_L.s f10 19 rfl) f11 (fun h12 eh12 => ?_)
          have k := k h12 eh12
          have f10 := am_LsI eh12 f10
          refine Ev.goto (tgt := 329) (am_dt kX10_worked 56 rfl) (by decide) ?_
          refine Ev.iinc (v := x3 + 1) (lv' := [(3, .int (x3 + 1)), (4, .int (hI h (a0 + 5) (Int32.toNatClampNeg x3))), (0, .ref a0), (1, .int x1), (2, .int x2)]) 4 (am_dt kX10_worked 176 rfl) rfl rfl (by decide) rfl ?_
          refine Ev.goto (tgt := 14) (am_dt kX10_worked 177 rfl) (by decide) ?_
          exact Ev.sub [2, 3, 4, 0] rfl k
        · have k := k.2 c
          refine Ev.iload 0 (am_dt kX10_worked 45 rfl) rfl ?_
          refine Ev.bipush (v := 21) (am_dt kX10_worked 46 rfl) (by decide) ?_
          refine Ev.icmp_ne (tgt := 105) (am_dt kX10_worked 47 rfl) (by decide) (fun c => ?_) (fun c => ?_)
          · have k := k.2 c
            refine Ev.iload 0 (am_dt kX10_worked 57 rfl) rfl ?_
            refine Ev.bipush (v := 22) (am_dt kX10_worked 58 rfl) (by decide) ?_
            refine Ev.icmp_ne (tgt := 123) (am_dt kX10_worked 59 rfl) (by decide) (fun c => ?_) (fun c => ?_)
            · have k := k.2 c
              refine Ev.iload 0 (am_dt kX10_worked 66 rfl) rfl ?_
              refine Ev.bipush (v := 24) (am_dt kX10_worked 67 rfl) (by decide) ?_
              refine Ev.icmp_eq (tgt := 137) (am_dt kX10_worked 68 rfl) (by decide) (fun c => ?_) (fun c => ?_)
              · have k := k.1 c
                exact Ev.sub [1, 2, 3, 4, 0] rfl k
              · have k := k.2 c
                refine Ev.iload 0 (am_dt kX10_worked 69 rfl) rfl ?_
                refine Ev.bipush (v := 25) (am_dt kX10_worked 70 rfl) (by decide) ?_
                refine Ev.icmp_ne (tgt := 180) (am_dt kX10_worked 71 rfl) (by decide) (fun c => ?_) (fun c => ?_)
                · have k := k.2 c
                  refine Ev.iload 0 (am_dt kX10_worked 99 rfl) rfl ?_
                  refine Ev.bipush (v := 26) (am_dt kX10_worked 100 rfl) (by decide) ?_
                  refine Ev.icmp_eq (tgt := 194) (am_dt kX10_worked 101 rfl) (by decide) (fun c => ?_) (fun c => ?_)
                  · have k := k.1 c
                    refine Ev.aload_n 1 (am_dt kX10_worked 105 rfl) rfl rfl ?_
                    refine Ev.iload_n 3 (am_dt kX10_worked 106 rfl) rfl rfl ?_
                    refine Ev.callV (ci := 10) (v := mX10_tests) (As := [.int x2]) (st := []) okX10_tests wd_632 wd_633 wd_634 (am_dt kX10_worked 107 rfl) (by decide) rfl rfl (Nat.le_of_ble_eq_true rfl) (Nat.le_of_ble_eq_true rfl) f1.1 ?_
                    refine EvM.mono k (fun r21 h20 k => ?_)
                    obtain ⟨rfl, k⟩ := k
                    show Ev w _ _ _ 199 _ [] _ _
                    refine Ev.aload_n 1 (am_dt kX10_worked 108 rfl) rfl rfl ?_
                    obtain ⟨f22, k⟩ := k
                    refine Ev.getRe (ci := 10) (k := 26) (r := a0 + 16) (am_dt kX10_worked 109 rfl) (by decide) (by decide) rfl wd_557 f22.1 (am_L.r f22 15 rfl) (by omega) ?_
                    refine Ev.iload_n 3 (am_dt kX10_worked 110 rfl) rfl rfl ?_
                    refine Ev.iload 0 (am_dt kX10_worked 111 rfl) rfl ?_
                    obtain ⟨f23, k⟩ := k
                    refine Ev.iast' (am_dt kX10_worked 112 rfl) (am_L.s f22 15 rfl) f23 (fun h24 eh24 => ?_)
                    have k := k h24 eh24
                    have f22 := am_LsI eh24 f22
                    refine Ev.goto (tgt := 329) (am_dt kX10_worked 113 rfl) (by decide) ?_
                    refine Ev.iinc (v := x3 + 1) (lv' := [(3, .int (x3 + 1)), (4, .int (hI h (a0 + 5) (Int32.toNatClampNeg x3))), (0, .ref a0), (1, .int x1), (2, .int x2)]) 4 (am_dt kX10_worked 176 rfl) rfl rfl (by decide) rfl ?_
                    refine Ev.goto (tgt := 14) (am_dt kX10_worked 177 rfl) (by decide) ?_
                    exact Ev.sub [2, 3, 4, 0] rfl k
                  · have k := k.2 c
                    refine Ev.iload 0 (am_dt kX10_worked 102 rfl) rfl ?_
                    refine Ev.bipush (v := 27) (am_dt kX10_worked 103 rfl) (by decide) ?_
                    refine Ev.icmp_ne (tgt := 210) (am_dt kX10_worked 104 rfl) (by decide) (fun c => ?_) (fun c => ?_)
                    · have k := k.2 c
                      refine Ev.iload 0 (am_dt kX10_worked 114 rfl) rfl ?_
                      refine Ev.bipush (v := 100) (am_dt kX10_worked 115 rfl) (by decide) ?_
                      refine Ev.icmp_lt (tgt := 225) (am_dt kX10_worked 116 rfl) (by decide) (fun c => ?_) (fun c => ?_)
                      · have k := k.1 c
                        refine Ev.iload 0 (am_dt kX10_worked 121 rfl) rfl ?_
                        refine Ev.bipush (v := 20) (am_dt kX10_worked 122 rfl) (by decide) ?_
                        refine Ev.icmp_ge (tgt := 242) (am_dt kX10_worked 123 rfl) (by decide) (fun c => ?_) (fun c => ?_)
                        · have k := k.1 c
                          refine Ev.iconst (v := 0) (am_dt kX10_worked 129 rfl) (by decide) ?_
                          exact Ev.sub [1, 2, 3, 4, 0] rfl k
                        · have k := k.2 c
                          refine Ev.aload_n 1 (am_dt kX10_worked 124 rfl) rfl rfl ?_
                          refine Ev.getRe (ci := 10) (k := 34) (r := a0 + 24) (am_dt kX10_worked 125 rfl) (by decide) (by decide) rfl wd_565 f1.1 (am_L.r f1 23 rfl) (by omega) ?_
                          refine Ev.iload 0 (am_dt kX10_worked 126 rfl) rfl ?_
                          obtain ⟨f30, k⟩ := k
                          refine Ev.iald (am_dt kX10_worked 127 rfl) (am_L.s f1 23 rfl) f30 ?_
                          refine Ev.goto (tgt := 243) (am_dt kX10_worked 128 rfl) (by decide) ?_
                          exact Ev.sub [1, 2, 3, 4, 0] rfl k
                      · have k := k.2 c
                        refine Ev.iload 0 (am_dt kX10_worked 117 rfl) rfl ?_
                        refine Ev.bipush (v := 100) (am_dt kX10_worked 118 rfl) (by decide) ?_
                        refine Ev.isub (am_dt kX10_worked 119 rfl) ?_
                        refine Ev.goto (tgt := 243) (am_dt kX10_worked 120 rfl) (by decide) ?_
                        exact Ev.sub [1, 2, 3, 4, 0] rfl k
                    · have k := k.1 c
                      refine Ev.aload_n 1 (am_dt kX10_worked 105 rfl) rfl rfl ?_
                      refine Ev.iload_n 3 (am_dt kX10_worked 106 rfl) rfl rfl ?_
                      refine Ev.callV (ci := 10) (v := mX10_tests) (As := [.int x2]) (st := []) okX10_tests wd_632 wd_633 wd_634 (am_dt kX10_worked 107 rfl) (by decide) rfl rfl (Nat.le_of_ble_eq_true rfl) (Nat.le_of_ble_eq_true rfl) f1.1 ?_
                      refine EvM.mono k (fun r26 h25 k => ?_)
                      obtain ⟨rfl, k⟩ := k
                      show Ev w _ _ _ 199 _ [] _ _
                      refine Ev.aload_n 1 (am_dt kX10_worked 108 rfl) rfl rfl ?_
                      obtain ⟨f27, k⟩ := k
                      refine Ev.getRe (ci := 10) (k := 26) (r := a0 + 16) (am_dt kX10_worked 109 rfl) (by decide) (by decide) rfl wd_557 f27.1 (am_L.r f27 15 rfl) (by omega) ?_
                      refine Ev.iload_n 3 (am_dt kX10_worked 110 rfl) rfl rfl ?_
                      refine Ev.iload 0 (am_dt kX10_worked 111 rfl) rfl ?_
                      obtain ⟨f28, k⟩ := k
                      refine Ev.iast' (am_dt kX10_worked 112 rfl) (am_L.s f27 15 rfl) f28 (fun h29 eh29 => ?_)
                      have k := k h29 eh29
                      have f27 := am_LsI eh29 f27
                      refine Ev.goto (tgt := 329) (am_dt kX10_worked 113 rfl) (by decide) ?_
                      refine Ev.iinc (v := x3 + 1) (lv' := [(3, .int (x3 + 1)), (4, .int (hI h (a0 + 5) (Int32.toNatClampNeg x3))), (0, .ref a0), (1, .int x1), (2, .int x2)]) 4 (am_dt kX10_worked 176 rfl) rfl rfl (by decide) rfl ?_
                      refine Ev.goto (tgt := 14) (am_dt kX10_worked 177 rfl) (by decide) ?_
                      exact Ev.sub [2, 3, 4, 0] rfl k
                · have k := k.1 c
                  exact Ev.sub [1, 2, 3, 4, 0] rfl k
            · have k := k.1 c
              refine Ev.aload_n 1 (am_dt kX10_worked 60 rfl) rfl rfl ?_
              refine Ev.getRe (ci := 10) (k := 32) (r := a0 + 22) (am_dt kX10_worked 61 rfl) (by decide) (by decide) rfl wd_563 f1.1 (am_L.r f1 21 rfl) (by omega) ?_
              refine Ev.iload_n 3 (am_dt kX10_worked 62 rfl) rfl rfl ?_
              refine Ev.iload 0 (am_dt kX10_worked 63 rfl) rfl ?_
              obtain ⟨f18, k⟩ := k
              refine Ev.iast' (am_dt kX10_worked 64 rfl) (am_L.s f1 21 rfl) f18 (fun h19 eh19 => ?_)
              have k := k h19 eh19
              have f1 := am_LsI eh19 f1
              refine Ev.goto (tgt := 329) (am_dt kX10_worked 65 rfl) (by decide) ?_
              refine Ev.iinc (v := x3 + 1) (lv' := [(3, .int (x3 + 1)), (4, .int (hI h (a0 + 5) (Int32.toNatClampNeg x3))), (0, .ref a0), (1, .int x1), (2, .int x2)]) 4 (am_dt kX10_worked 176 rfl) rfl rfl (by decide) rfl ?_
              refine Ev.goto (tgt := 14) (am_dt kX10_worked 177 rfl) (by decide) ?_
              exact Ev.sub [2, 3, 4, 0] rfl k
          · have k := k.1 c
            refine Ev.aload_n 1 (am_dt kX10_worked 48 rfl) rfl rfl ?_
            refine Ev.iload_n 3 (am_dt kX10_worked 49 rfl) rfl rfl ?_
            refine Ev.callV (ci := 10) (v := mX10_sums) (As := [.int x2]) (st := []) okX10_sums wd_626 wd_627 wd_628 (am_dt kX10_worked 50 rfl) (by decide) rfl rfl (Nat.le_of_ble_eq_true rfl) (Nat.le_of_ble_eq_true rfl) f1.1 ?_
            refine EvM.mono k (fun r14 h13 k => ?_)
            obtain ⟨rfl, k⟩ := k
            show Ev w _ _ _ 94 _ [] _ _
            refine Ev.aload_n 1 (am_dt kX10_worked 51 rfl) rfl rfl ?_
            obtain ⟨f15, k⟩ := k
            refine Ev.getRe (ci := 10) (k := 30) (r := a0 + 20) (am_dt kX10_worked 52 rfl) (by decide) (by decide) rfl wd_561 f15.1 (am_L.r f15 19 rfl) (by omega) ?_
            refine Ev.iload_n 3 (am_dt kX10_worked 53 rfl) rfl rfl ?_
            refine Ev.iload 0 (am_dt kX10_worked 54 rfl) rfl ?_
            obtain ⟨f16, k⟩ := k
            refine Ev.iast' (am_dt kX10_worked 55 rfl) (am_L.s f15 19 rfl) f16 (fun h17 eh17 => ?_)
            have k := k h17 eh17
            have f15 := am_LsI eh17 f15
            refine Ev.goto (tgt := 329) (am_dt kX10_worked 56 rfl) (by decide) ?_
            refine Ev.iinc (v := x3 + 1) (lv' := [(3, .int (x3 + 1)), (4, .int (hI h (a0 + 5) (Int32.toNatClampNeg x3))), (0, .ref a0), (1, .int x1), (2, .int x2)]) 4 (am_dt kX10_worked 176 rfl) rfl rfl (by decide) rfl ?_
            refine Ev.goto (tgt := 14) (am_dt kX10_worked 177 rfl) (by decide) ?_
            exact Ev.sub [2, 3, 4, 0] rfl k
      · have k := k.1 c
        exact Ev.sub [1, 2, 3, 4, 0] rfl k
set_option maxRecDepth 20000 in
set_option maxHeartbeats 2000000 in
theorem bX10_worked_46 {w : am_W} {d : Nat} {h : am_H} {Q : Option Value → am_H → Prop} {a0 : Nat} {x1 : Int32} {x2 : Int32} {x3 : Int32} {x4 : Int32}  (k : (am_L 10 a0 h) ∧ ((x4 = 30 → ((vp_in (x2 + 1) (hN h (a0 + 23))) ∧ (∀ h3 : am_H, h3 = sI h (a0 + 23) (Int32.toNatClampNeg (x2 + 1)) 1 → (EvM w mX10_opens d [.ref a0, .int (x2 + 1)] h3 (fun r5 h4 => r5 = none ∧ (Ev w (am_Z w) mX10_worked (d + 1) 14 [(0, .ref a0), (1, .int x1), (2, .int (x2 + 1)), (3, .int (x3 + 1))] [] h4 Q)))))) ∧ (¬ x4 = 30 → ((vp_in (x2 + 1) (hN h (a0 + 23))) ∧ (∀ h7 : am_H, h7 = sI h (a0 + 23) (Int32.toNatClampNeg (x2 + 1)) 0 → (EvM w mX10_opens d [.ref a0, .int (x2 + 1)] h7 (fun r9 h8 => r9 = none ∧ (Ev w (am_Z w) mX10_worked (d + 1) 14 [(0, .ref a0), (1, .int x1), (2, .int (x2 + 1)), (3, .int (x3 + 1))] [] h8 Q)))))))) : Ev w (am_Z w) mX10_worked (d + 1) 46 [(0, .ref a0), (1, .int x1), (2, .int x2), (3, .int x3), (4, .int x4)] [] h Q := by
  refine Ev.iinc (v := x2 + 1) (lv' := [(2, .int (x2 + 1)), (0, .ref a0), (1, .int x1), (3, .int x3), (4, .int x4)]) 2 (am_dt kX10_worked 27 rfl) rfl rfl (by decide) rfl ?_
  refine Ev.aload_n 1 (am_dt kX10_worked 28 rfl) rfl rfl ?_
  obtain ⟨f1, k⟩ := k
  refine Ev.getRe (ci := 10) (k := 33) (r := a0 + 23) (am_dt kX10_worked 29 rfl) (by decide) (by decide) rfl wd_564 f1.1 (am_L.r f1 22 rfl) (by omega) ?_
  refine Ev.iload_n 0 (am_dt kX10_worked 30 rfl) rfl rfl ?_
  refine Ev.iload 4 (am_dt kX10_worked 31 rfl) rfl ?_
  refine Ev.bipush (v := 30) (am_dt kX10_worked 32 rfl) (by decide) ?_
  refine Ev.icmp_ne (tgt := 65) (am_dt kX10_worked 33 rfl) (by decide) (fun c => ?_) (fun c => ?_)
  · have k := k.2 c
    refine Ev.iconst (v := 0) (am_dt kX10_worked 36 rfl) (by decide) ?_
    obtain ⟨f6, k⟩ := k
    refine Ev.iast' (am_dt kX10_worked 37 rfl) (am_L.s f1 22 rfl) f6 (fun h7 eh7 => ?_)
    have k := k h7 eh7
    have f1 := am_LsI eh7 f1
    refine Ev.aload_n 1 (am_dt kX10_worked 38 rfl) rfl rfl ?_
    refine Ev.iload_n 0 (am_dt kX10_worked 39 rfl) rfl rfl ?_
    refine Ev.callV (ci := 10) (v := mX10_opens) (As := [.int (x2 + 1)]) (st := []) okX10_opens wd_629 wd_630 wd_631 (am_dt kX10_worked 40 rfl) (by decide) rfl rfl (Nat.le_of_ble_eq_true rfl) (Nat.le_of_ble_eq_true rfl) f1.1 ?_
    refine EvM.mono k (fun r9 h8 k => ?_)
    obtain ⟨rfl, k⟩ := k
    show Ev w _ _ _ 72 _ [] _ _
    refine Ev.goto (tgt := 329) (am_dt kX10_worked 41 rfl) (by decide) ?_
    refine Ev.iinc (v := x3 + 1) (lv' := [(3, .int (x3 + 1)), (2, .int (x2 + 1)), (0, .ref a0), (1, .int x1), (4, .int x4)]) 3 (am_dt kX10_worked 176 rfl) rfl rfl (by decide) rfl ?_
    refine Ev.goto (tgt := 14) (am_dt kX10_worked 177 rfl) (by decide) ?_
    exact Ev.sub [2, 3, 1, 0] rfl k
  · have k := k.1 c
    refine Ev.iconst (v := 1) (am_dt kX10_worked 34 rfl) (by decide) ?_
    refine Ev.goto (tgt := 66) (am_dt kX10_worked 35 rfl) (by decide) ?_
    obtain ⟨f2, k⟩ := k
    refine Ev.iast' (am_dt kX10_worked 37 rfl) (am_L.s f1 22 rfl) f2 (fun h3 eh3 => ?_)
    have k := k h3 eh3
    have f1 := am_LsI eh3 f1
    refine Ev.aload_n 1 (am_dt kX10_worked 38 rfl) rfl rfl ?_
    refine Ev.iload_n 0 (am_dt kX10_worked 39 rfl) rfl rfl ?_
    refine Ev.callV (ci := 10) (v := mX10_opens) (As := [.int (x2 + 1)]) (st := []) okX10_opens wd_629 wd_630 wd_631 (am_dt kX10_worked 40 rfl) (by decide) rfl rfl (Nat.le_of_ble_eq_true rfl) (Nat.le_of_ble_eq_true rfl) f1.1 ?_
    refine EvM.mono k (fun r5 h4 k => ?_)
    obtain ⟨rfl, k⟩ := k
    show Ev w _ _ _ 72 _ [] _ _
    refine Ev.goto (tgt := 329) (am_dt kX10_worked 41 rfl) (by decide) ?_
    refine Ev.iinc (v := x3 + 1) (lv' := [(3, .int (x3 + 1)), (2, .int (x2 + 1)), (0, .ref a0), (1, .int x1), (4, .int x4)]) 3 (am_dt kX10_worked 176 rfl) rfl rfl (by decide) rfl ?_
    refine Ev.goto (tgt := 14) (am_dt kX10_worked 177 rfl) (by decide) ?_
    exact Ev.sub [2, 3, 1, 0] rfl k
set_option maxRecDepth 20000 in
set_option maxHeartbeats 2000000 in
theorem bX10_worked_137 {w : am_W} {d : Nat} {h : am_H} {Q : Option Value → am_H → Prop} {a0 : Nat} {x1 : Int32} {x2 : Int32} {x3 : Int32} {x4 : Int32}  (k : (am_L 10 a0 h) ∧ (EvM w mX10_sums d [.ref a0, .int x2] h (fun r3 h2 => r3 = none ∧ ((am_L 10 a0 h2) ∧ ((vp_in x2 (hN h2 (a0 + 19))) ∧ ((vp_in x2 (hN h2 (a0 + 17))) ∧ (∀ h7 : am_H, h7 = sI h2 (a0 + 17) (Int32.toNatClampNeg x2) (hI h2 (a0 + 19) (Int32.toNatClampNeg x2)) → ((vp_in x2 (hN h7 (a0 + 18))) ∧ (∀ h9 : am_H, h9 = sI h7 (a0 + 18) (Int32.toNatClampNeg x2) x4 → ((vp_in x2 (hN h9 (a0 + 19))) ∧ (∀ h11 : am_H, h11 = sI h9 (a0 + 19) (Int32.toNatClampNeg x2) 0 → ((vp_in x2 (hN h11 (a0 + 20))) ∧ (∀ h13 : am_H, h13 = sI h11 (a0 + 20) (Int32.toNatClampNeg x2) 20 → (Ev w (am_Z w) mX10_worked (d + 1) 14 [(0, .ref a0), (1, .int x1), (2, .int x2), (3, .int (x3 + 1))] [] h13 Q)))))))))))))) : Ev w (am_Z w) mX10_worked (d + 1) 137 [(0, .ref a0), (1, .int x1), (2, .int x2), (3, .int x3), (4, .int x4)] [] h Q := by
  refine Ev.aload_n 0 (am_dt kX10_worked 72 rfl) rfl rfl ?_
  refine Ev.iload_n 2 (am_dt kX10_worked 73 rfl) rfl rfl ?_
  obtain ⟨f1, k⟩ := k
  refine Ev.callV (ci := 10) (v := mX10_sums) (As := [.int x2]) (st := []) okX10_sums wd_626 wd_627 wd_628 (am_dt kX10_worked 74 rfl) (by decide) rfl rfl (Nat.le_of_ble_eq_true rfl) (Nat.le_of_ble_eq_true rfl) f1.1 ?_
  refine EvM.mono k (fun r3 h2 k => ?_)
  obtain ⟨rfl, k⟩ := k
  show Ev w _ _ _ 142 _ [] _ _
  refine Ev.aload_n 0 (am_dt kX10_worked 75 rfl) rfl rfl ?_
  obtain ⟨f4, k⟩ := k
  refine Ev.getRe (ci := 10) (k := 27) (r := a0 + 17) (am_dt kX10_worked 76 rfl) (by decide) (by decide) rfl wd_558 f4.1 (am_L.r f4 16 rfl) (by omega) ?_
  refine Ev.iload_n 2 (am_dt kX10_worked 77 rfl) rfl rfl ?_
  refine Ev.aload_n 0 (am_dt kX10_worked 78 rfl) rfl rfl ?_
  refine Ev.getRe (ci := 10) (k := 29) (r := a0 + 19) (am_dt kX10_worked 79 rfl) (by decide) (by decide) rfl wd_560 f4.1 (am_L.r f4 18 rfl) (by omega) ?_
  refine Ev.iload_n 2 (am_dt kX10_worked 80 rfl) rfl rfl ?_
  obtain ⟨f5, k⟩ := k
  refine Ev.iald (am_dt kX10_worked 81 rfl) (am_L.s f4 18 rfl) f5 ?_
  obtain ⟨f6, k⟩ := k
  refine Ev.iast' (am_dt kX10_worked 82 rfl) (am_L.s f4 16 rfl) f6 (fun h7 eh7 => ?_)
  have k := k h7 eh7
  have f4 := am_LsI eh7 f4
  refine Ev.aload_n 0 (am_dt kX10_worked 83 rfl) rfl rfl ?_
  refine Ev.getRe (ci := 10) (k := 28) (r := a0 + 18) (am_dt kX10_worked 84 rfl) (by decide) (by decide) rfl wd_559 f4.1 (am_L.r f4 17 rfl) (by omega) ?_
  refine Ev.iload_n 2 (am_dt kX10_worked 85 rfl) rfl rfl ?_
  refine Ev.iload 4 (am_dt kX10_worked 86 rfl) rfl ?_
  obtain ⟨f8, k⟩ := k
  refine Ev.iast' (am_dt kX10_worked 87 rfl) (am_L.s f4 17 rfl) f8 (fun h9 eh9 => ?_)
  have k := k h9 eh9
  have f4 := am_LsI eh9 f4
  refine Ev.aload_n 0 (am_dt kX10_worked 88 rfl) rfl rfl ?_
  refine Ev.getRe (ci := 10) (k := 29) (r := a0 + 19) (am_dt kX10_worked 89 rfl) (by decide) (by decide) rfl wd_560 f4.1 (am_L.r f4 18 rfl) (by omega) ?_
  refine Ev.iload_n 2 (am_dt kX10_worked 90 rfl) rfl rfl ?_
  refine Ev.iconst (v := 0) (am_dt kX10_worked 91 rfl) (by decide) ?_
  obtain ⟨f10, k⟩ := k
  refine Ev.iast' (am_dt kX10_worked 92 rfl) (am_L.s f4 18 rfl) f10 (fun h11 eh11 => ?_)
  have k := k h11 eh11
  have f4 := am_LsI eh11 f4
  refine Ev.aload_n 0 (am_dt kX10_worked 93 rfl) rfl rfl ?_
  refine Ev.getRe (ci := 10) (k := 30) (r := a0 + 20) (am_dt kX10_worked 94 rfl) (by decide) (by decide) rfl wd_561 f4.1 (am_L.r f4 19 rfl) (by omega) ?_
  refine Ev.iload_n 2 (am_dt kX10_worked 95 rfl) rfl rfl ?_
  refine Ev.bipush (v := 20) (am_dt kX10_worked 96 rfl) (by decide) ?_
  obtain ⟨f12, k⟩ := k
  refine Ev.iast' (am_dt kX10_worked 97 rfl) (am_L.s f4 19 rfl) f12 (fun h13 eh13 => ?_)
  have k := k h13 eh13
  have f4 := am_LsI eh13 f4
  refine Ev.goto (tgt := 329) (am_dt kX10_worked 98 rfl) (by decide) ?_
  refine Ev.iinc (v := x3 + 1) (lv' := [(3, .int (x3 + 1)), (0, .ref a0), (1, .int x1), (2, .int x2), (4, .int x4)]) 3 (am_dt kX10_worked 176 rfl) rfl rfl (by decide) rfl ?_
  refine Ev.goto (tgt := 14) (am_dt kX10_worked 177 rfl) (by decide) ?_
  exact Ev.sub [1, 2, 3, 0] rfl k
set_option maxRecDepth 20000 in
set_option maxHeartbeats 2000000 in
theorem bX10_worked_243 {w : am_W} {d : Nat} {h : am_H} {Q : Option Value → am_H → Prop} {a0 : Nat} {x1 : Int32} {x2 : Int32} {x3 : Int32} {x4 : Int32} {s0 : Int32} (k : (x4 = 29 → ((am_L 10 a0 h) ∧ (EvM w mX10_tests d [.ref a0, .int x2] h (fun r3 h2 => r3 = none ∧ ((am_L 10 a0 h2) ∧ ((vp_in x2 (hN h2 (a0 + 15))) ∧ (Ev w (am_Z w) mX10_worked (d + 1) 268 [(0, .ref a0), (1, .int x1), (2, .int (x2 + (-1))), (3, .int x3), (5, .int (hI h2 (a0 + 15) (Int32.toNatClampNeg x2)))] [] h2 Q))))))) ∧ (¬ x4 = 29 → (Ev w (am_Z w) mX10_worked (d + 1) 268 [(0, .ref a0), (1, .int x1), (2, .int x2), (3, .int x3), (5, .int s0)] [] h Q))) : Ev w (am_Z w) mX10_worked (d + 1) 243 [(0, .ref a0), (1, .int x1), (2, .int x2), (3, .int x3), (4, .int x4)] [.int s0] h Q := by
  refine Ev.istore (lv' := [(5, .int s0), (0, .ref a0), (1, .int x1), (2, .int x2), (3, .int x3), (4, .int x4)]) (am_dt kX10_worked 130 rfl) (by decide) rfl ?_
  refine Ev.iload 5 (am_dt kX10_worked 131 rfl) rfl ?_
  refine Ev.bipush (v := 29) (am_dt kX10_worked 132 rfl) (by decide) ?_
  refine Ev.icmp_ne (tgt := 268) (am_dt kX10_worked 133 rfl) (by decide) (fun c => ?_) (fun c => ?_)
  · have k := k.2 c
    exact Ev.sub [1, 2, 3, 4, 0] rfl k
  · have k := k.1 c
    refine Ev.aload_n 1 (am_dt kX10_worked 134 rfl) rfl rfl ?_
    refine Ev.iload_n 3 (am_dt kX10_worked 135 rfl) rfl rfl ?_
    obtain ⟨f1, k⟩ := k
    refine Ev.callV (ci := 10) (v := mX10_tests) (As := [.int x2]) (st := []) okX10_tests wd_632 wd_633 wd_634 (am_dt kX10_worked 136 rfl) (by decide) rfl rfl (Nat.le_of_ble_eq_true rfl) (Nat.le_of_ble_eq_true rfl) f1.1 ?_
    refine EvM.mono k (fun r3 h2 k => ?_)
    obtain ⟨rfl, k⟩ := k
    show Ev w _ _ _ 257 _ [] _ _
    refine Ev.aload_n 1 (am_dt kX10_worked 137 rfl) rfl rfl ?_
    obtain ⟨f4, k⟩ := k
    refine Ev.getRe (ci := 10) (k := 25) (r := a0 + 15) (am_dt kX10_worked 138 rfl) (by decide) (by decide) rfl wd_556 f4.1 (am_L.r f4 14 rfl) (by omega) ?_
    refine Ev.iload_n 3 (am_dt kX10_worked 139 rfl) rfl rfl ?_
    obtain ⟨f5, k⟩ := k
    refine Ev.iald (am_dt kX10_worked 140 rfl) (am_L.s f4 14 rfl) f5 ?_
    refine Ev.istore (lv' := [(5, .int (hI h2 (a0 + 15) (Int32.toNatClampNeg x2))), (0, .ref a0), (1, .int x1), (2, .int x2), (3, .int x3), (4, .int x4)]) (am_dt kX10_worked 141 rfl) (by decide) rfl ?_
    refine Ev.iinc (v := x2 + (-1)) (lv' := [(2, .int (x2 + (-1))), (5, .int (hI h2 (a0 + 15) (Int32.toNatClampNeg x2))), (0, .ref a0), (1, .int x1), (3, .int x3), (4, .int x4)]) 3 (am_dt kX10_worked 142 rfl) rfl rfl (by decide) rfl ?_
    exact Ev.sub [2, 3, 0, 4, 1] rfl k
set_option maxRecDepth 20000 in
set_option maxHeartbeats 2000000 in
theorem bX10_worked_268 {w : am_W} {d : Nat} {h : am_H} {Q : Option Value → am_H → Prop} {a0 : Nat} {x1 : Int32} {x2 : Int32} {x3 : Int32} {x5 : Int32}  (k : (x2 ≤ 0 → (Ev w (am_Z w) mX10_worked (d + 1) 300 [(0, .ref a0), (1, .int x1), (2, .int x2), (3, .int x3), (5, .int x5)] [] h Q)) ∧ (¬ x2 ≤ 0 → ((am_L 10 a0 h) ∧ ((vp_in x2 (hN h (a0 + 23))) ∧ (((hI h (a0 + 23) (Int32.toNatClampNeg x2)) = 1 → ((x5 = 0 → (Ev w (am_Z w) mX10_worked (d + 1) 268 [(0, .ref a0), (1, .int x1), (2, .int (x2 + (-1))), (3, .int x3), (5, .int 1)] [] h Q)) ∧ (¬ x5 = 0 → (Ev w (am_Z w) mX10_worked (d + 1) 268 [(0, .ref a0), (1, .int x1), (2, .int (x2 + (-1))), (3, .int x3), (5, .int 0)] [] h Q)))) ∧ (¬ (hI h (a0 + 23) (Int32.toNatClampNeg x2)) = 1 → (Ev w (am_Z w) mX10_worked (d + 1) 300 [(0, .ref a0), (1, .int x1), (2, .int x2), (3, .int x3), (5, .int x5)] [] h Q))))))) : Ev w (am_Z w) mX10_worked (d + 1) 268 [(0, .ref a0), (1, .int x1), (2, .int x2), (3, .int x3), (5, .int x5)] [] h Q := by
  refine Ev.iload_n 2 (am_dt kX10_worked 143 rfl) rfl rfl ?_
  refine Ev.if_le (tgt := 300) (am_dt kX10_worked 144 rfl) (by decide) (fun c => ?_) (fun c => ?_)
  · have k := k.1 c
    exact k
  · have k := k.2 c
    refine Ev.aload_n 0 (am_dt kX10_worked 145 rfl) rfl rfl ?_
    obtain ⟨f1, k⟩ := k
    refine Ev.getRe (ci := 10) (k := 33) (r := a0 + 23) (am_dt kX10_worked 146 rfl) (by decide) (by decide) rfl wd_564 f1.1 (am_L.r f1 22 rfl) (by omega) ?_
    refine Ev.iload_n 2 (am_dt kX10_worked 147 rfl) rfl rfl ?_
    obtain ⟨f2, k⟩ := k
    refine Ev.iald (am_dt kX10_worked 148 rfl) (am_L.s f1 22 rfl) f2 ?_
    refine Ev.iconst (v := 1) (am_dt kX10_worked 149 rfl) (by decide) ?_
    refine Ev.icmp_ne (tgt := 300) (am_dt kX10_worked 150 rfl) (by decide) (fun c => ?_) (fun c => ?_)
    · have k := k.2 c
      exact k
    · have k := k.1 c
      refine Ev.iload 4 (am_dt kX10_worked 151 rfl) rfl ?_
      refine Ev.if_ne (tgt := 291) (am_dt kX10_worked 152 rfl) (by decide) (fun c => ?_) (fun c => ?_)
      · have k := k.2 c
        refine Ev.iconst (v := 0) (am_dt kX10_worked 155 rfl) (by decide) ?_
        refine Ev.istore (lv' := [(5, .int 0), (0, .ref a0), (1, .int x1), (2, .int x2), (3, .int x3)]) (am_dt kX10_worked 156 rfl) (by decide) rfl ?_
        refine Ev.iinc (v := x2 + (-1)) (lv' := [(2, .int (x2 + (-1))), (5, .int 0), (0, .ref a0), (1, .int x1), (3, .int x3)]) 3 (am_dt kX10_worked 157 rfl) rfl rfl (by decide) rfl ?_
        refine Ev.goto (tgt := 268) (am_dt kX10_worked 158 rfl) (by decide) ?_
        exact Ev.sub [2, 3, 0, 4, 1] rfl k
      · have k := k.1 c
        refine Ev.iconst (v := 1) (am_dt kX10_worked 153 rfl) (by decide) ?_
        refine Ev.goto (tgt := 292) (am_dt kX10_worked 154 rfl) (by decide) ?_
        refine Ev.istore (lv' := [(5, .int 1), (0, .ref a0), (1, .int x1), (2, .int x2), (3, .int x3)]) (am_dt kX10_worked 156 rfl) (by decide) rfl ?_
        refine Ev.iinc (v := x2 + (-1)) (lv' := [(2, .int (x2 + (-1))), (5, .int 1), (0, .ref a0), (1, .int x1), (3, .int x3)]) 3 (am_dt kX10_worked 157 rfl) rfl rfl (by decide) rfl ?_
        refine Ev.goto (tgt := 268) (am_dt kX10_worked 158 rfl) (by decide) ?_
        exact Ev.sub [2, 3, 0, 4, 1] rfl k
set_option maxRecDepth 20000 in
set_option maxHeartbeats 2000000 in
theorem bX10_worked_300 {w : am_W} {d : Nat} {h : am_H} {Q : Option Value → am_H → Prop} {a0 : Nat} {x1 : Int32} {x2 : Int32} {x3 : Int32} {x5 : Int32}  (k : (am_L 10 a0 h) ∧ ((vp_in x2 (hN h (a0 + 22))) ∧ (((hI h (a0 + 22) (Int32.toNatClampNeg x2)) = 0 → ((vp_in x2 (hN h (a0 + 21))) ∧ (∀ h4 : am_H, h4 = sI h (a0 + 21) (Int32.toNatClampNeg x2) x5 → (Ev w (am_Z w) mX10_worked (d + 1) 14 [(0, .ref a0), (1, .int x1), (2, .int x2), (3, .int (x3 + 1))] [] h4 Q)))) ∧ (¬ (hI h (a0 + 22) (Int32.toNatClampNeg x2)) = 0 → ((vp_in x2 (hN h (a0 + 21))) ∧ ((vp_in x2 (hN h (a0 + 21))) ∧ (∀ h7 : am_H, h7 = sI h (a0 + 21) (Int32.toNatClampNeg x2) ((hI h (a0 + 21) (Int32.toNatClampNeg x2)) * x5) → (Ev w (am_Z w) mX10_worked (d + 1) 14 [(0, .ref a0), (1, .int x1), (2, .int x2), (3, .int (x3 + 1))] [] h7 Q)))))))) : Ev w (am_Z w) mX10_worked (d + 1) 300 [(0, .ref a0), (1, .int x1), (2, .int x2), (3, .int x3), (5, .int x5)] [] h Q := by
  refine Ev.aload_n 0 (am_dt kX10_worked 159 rfl) rfl rfl ?_
  obtain ⟨f1, k⟩ := k
  refine Ev.getRe (ci := 10) (k := 31) (r := a0 + 21) (am_dt kX10_worked 160 rfl) (by decide) (by decide) rfl wd_562 f1.1 (am_L.r f1 20 rfl) (by omega) ?_
  refine Ev.iload_n 2 (am_dt kX10_worked 161 rfl) rfl rfl ?_
  refine Ev.aload_n 0 (am_dt kX10_worked 162 rfl) rfl rfl ?_
  refine Ev.getRe (ci := 10) (k := 32) (r := a0 + 22) (am_dt kX10_worked 163 rfl) (by decide) (by decide) rfl wd_563 f1.1 (am_L.r f1 21 rfl) (by omega) ?_
  refine Ev.iload_n 2 (am_dt kX10_worked 164 rfl) rfl rfl ?_
  obtain ⟨f2, k⟩ := k
  refine Ev.iald (am_dt kX10_worked 165 rfl) (am_L.s f1 21 rfl) f2 ?_
  refine Ev.if_ne (tgt := 319) (am_dt kX10_worked 166 rfl) (by decide) (fun c => ?_) (fun c => ?_)
  · have k := k.2 c
    refine Ev.aload_n 0 (am_dt kX10_worked 169 rfl) rfl rfl ?_
    refine Ev.getRe (ci := 10) (k := 31) (r := a0 + 21) (am_dt kX10_worked 170 rfl) (by decide) (by decide) rfl wd_562 f1.1 (am_L.r f1 20 rfl) (by omega) ?_
    refine Ev.iload_n 2 (am_dt kX10_worked 171 rfl) rfl rfl ?_
    obtain ⟨f5, k⟩ := k
    refine Ev.iald (am_dt kX10_worked 172 rfl) (am_L.s f1 20 rfl) f5 ?_
    refine Ev.iload 4 (am_dt kX10_worked 173 rfl) rfl ?_
    refine Ev.imul (am_dt kX10_worked 174 rfl) ?_
    obtain ⟨f6, k⟩ := k
    refine Ev.iast' (am_dt kX10_worked 175 rfl) (am_L.s f1 20 rfl) f6 (fun h7 eh7 => ?_)
    have k := k h7 eh7
    have f1 := am_LsI eh7 f1
    refine Ev.iinc (v := x3 + 1) (lv' := [(3, .int (x3 + 1)), (0, .ref a0), (1, .int x1), (2, .int x2), (5, .int x5)]) 3 (am_dt kX10_worked 176 rfl) rfl rfl (by decide) rfl ?_
    refine Ev.goto (tgt := 14) (am_dt kX10_worked 177 rfl) (by decide) ?_
    exact Ev.sub [1, 2, 3, 0] rfl k
  · have k := k.1 c
    refine Ev.iload 4 (am_dt kX10_worked 167 rfl) rfl ?_
    refine Ev.goto (tgt := 328) (am_dt kX10_worked 168 rfl) (by decide) ?_
    obtain ⟨f3, k⟩ := k
    refine Ev.iast' (am_dt kX10_worked 175 rfl) (am_L.s f1 20 rfl) f3 (fun h4 eh4 => ?_)
    have k := k h4 eh4
    have f1 := am_LsI eh4 f1
    refine Ev.iinc (v := x3 + 1) (lv' := [(3, .int (x3 + 1)), (0, .ref a0), (1, .int x1), (2, .int x2), (5, .int x5)]) 3 (am_dt kX10_worked 176 rfl) rfl rfl (by decide) rfl ?_
    refine Ev.goto (tgt := 14) (am_dt kX10_worked 177 rfl) (by decide) ?_
    exact Ev.sub [1, 2, 3, 0] rfl k
set_option maxRecDepth 20000 in
set_option maxHeartbeats 2000000 in
theorem bX10_isKept_0 {w : am_W} {d : Nat} {h : am_H} {Q : Option Value → am_H → Prop} {a0 : Nat}  (k : (am_L 10 a0 h) ∧ (((hI h a0 6) = 1 → (((hJ h a0 7) = 365647 → (Q (some (.int 1)) h)) ∧ (¬ (hJ h a0 7) = 365647 → (((hJ h a0 7) = 407041 → (Q (some (.int 1)) h)) ∧ (¬ (hJ h a0 7) = 407041 → (((hJ h a0 7) = 1359415 → (Q (some (.int 1)) h)) ∧ (¬ (hJ h a0 7) = 1359415 → (((hJ h a0 7) = 380651 → (Q (some (.int 1)) h)) ∧ (¬ (hJ h a0 7) = 380651 → (((hJ h a0 7) = 411 → (Q (some (.int 1)) h)) ∧ (¬ (hJ h a0 7) = 411 → (((hJ h a0 7) = 70340 → (Q (some (.int 1)) h)) ∧ (¬ (hJ h a0 7) = 70340 → (((hJ h a0 7) = 8798 → (Q (some (.int 1)) h)) ∧ (¬ (hJ h a0 7) = 8798 → (((hJ h a0 7) = 232608281 → (Q (some (.int 1)) h)) ∧ (¬ (hJ h a0 7) = 232608281 → (((hJ h a0 7) = 47 → (Q (some (.int 1)) h)) ∧ (¬ (hJ h a0 7) = 47 → (((hJ h a0 7) = 332864552 → (Q (some (.int 1)) h)) ∧ (¬ (hJ h a0 7) = 332864552 → (((hJ h a0 7) = 70517 → (Q (some (.int 1)) h)) ∧ (¬ (hJ h a0 7) = 70517 → (((hJ h a0 7) = 240023 → (Q (some (.int 1)) h)) ∧ (¬ (hJ h a0 7) = 240023 → (((hJ h a0 7) = 9748424 → (Q (some (.int 1)) h)) ∧ (¬ (hJ h a0 7) = 9748424 → (((hJ h a0 7) = 6624454 → (Q (some (.int 1)) h)) ∧ (¬ (hJ h a0 7) = 6624454 → (((hJ h a0 7) = 9813100 → (Q (some (.int 1)) h)) ∧ (¬ (hJ h a0 7) = 9813100 → (((hJ h a0 7) = 453701 → (Q (some (.int 1)) h)) ∧ (¬ (hJ h a0 7) = 453701 → (((hJ h a0 7) = 191610176 → (Q (some (.int 1)) h)) ∧ (¬ (hJ h a0 7) = 191610176 → (((hJ h a0 7) = 8740238 → (Q (some (.int 1)) h)) ∧ (¬ (hJ h a0 7) = 8740238 → (((hJ h a0 7) = 3328 → (Q (some (.int 1)) h)) ∧ (¬ (hJ h a0 7) = 3328 → (((hJ h a0 7) = 1758676 → (Q (some (.int 1)) h)) ∧ (¬ (hJ h a0 7) = 1758676 → (((hJ h a0 7) = 60284 → (Q (some (.int 1)) h)) ∧ (¬ (hJ h a0 7) = 60284 → (((hJ h a0 7) = 298503054 → (Q (some (.int 1)) h)) ∧ (¬ (hJ h a0 7) = 298503054 → (((hJ h a0 7) = 1285333587 → (Q (some (.int 1)) h)) ∧ (¬ (hJ h a0 7) = 1285333587 → (((hJ h a0 7) = 10631 → (Q (some (.int 1)) h)) ∧ (¬ (hJ h a0 7) = 10631 → (((hJ h a0 7) = 1111 → (Q (some (.int 1)) h)) ∧ (¬ (hJ h a0 7) = 1111 → (((hJ h a0 7) = 423 → (Q (some (.int 1)) h)) ∧ (¬ (hJ h a0 7) = 423 → (Q (some (.int 0)) h)))))))))))))))))))))))))))))))))))))))))))))))))))))) ∧ (¬ (hI h a0 6) = 1 → (Q (some (.int 1)) h)))) : EvM w mX10_isKept d [.ref a0] h Q := by
  show Ev w (am_Z w) mX10_isKept d 0 [(0, .ref a0)] [] h Q
  refine Ev.aload_n 0 (am_dt kX10_isKept 0 rfl) rfl rfl ?_
  obtain ⟨f1, k⟩ := k
  refine Ev.getI (ci := 10) (k := 6) (am_dt kX10_isKept 1 rfl) (by decide) (by decide) rfl wd_591 f1.1 ?_
  refine Ev.iconst (v := 1) (am_dt kX10_isKept 2 rfl) (by decide) ?_
  refine Ev.icmp_eq (tgt := 10) (am_dt kX10_isKept 3 rfl) (by decide) (fun c => ?_) (fun c => ?_)
  · have k := k.1 c
    refine Ev.aload_n 0 (am_dt kX10_isKept 6 rfl) rfl rfl ?_
    refine Ev.getJ (ci := 10) (k := 7) (am_dt kX10_isKept 7 rfl) (by decide) (by decide) rfl wd_589 f1.1 ?_
    refine Ev.ldc2 (v := 365647) (am_dt kX10_isKept 8 rfl) wd_635 ?_
    refine Ev.lcmp (am_dt kX10_isKept 9 rfl) ?_
    refine Ev.if_eq (tgt := 296) (am_dt kX10_isKept 10 rfl) (by decide) (fun c => ?_) (fun c => ?_)
    · have k := k.1 (am_lc.mp c)
      refine Ev.iconst (v := 1) (am_dt kX10_isKept 136 rfl) (by decide) ?_
      refine Ev.goto (tgt := 301) (am_dt kX10_isKept 137 rfl) (by decide) ?_
      exact Ev.iret .boolean (am_dt kX10_isKept 139 rfl) rfl rfl k
    · have k := k.2 (mt am_lc.mpr c)
      refine Ev.aload_n 0 (am_dt kX10_isKept 11 rfl) rfl rfl ?_
      refine Ev.getJ (ci := 10) (k := 7) (am_dt kX10_isKept 12 rfl) (by decide) (by decide) rfl wd_589 f1.1 ?_
      refine Ev.ldc2 (v := 407041) (am_dt kX10_isKept 13 rfl) wd_636 ?_
      refine Ev.lcmp (am_dt kX10_isKept 14 rfl) ?_
      refine Ev.if_eq (tgt := 296) (am_dt kX10_isKept 15 rfl) (by decide) (fun c => ?_) (fun c => ?_)
      · have k := k.1 (am_lc.mp c)
        refine Ev.iconst (v := 1) (am_dt kX10_isKept 136 rfl) (by decide) ?_
        refine Ev.goto (tgt := 301) (am_dt kX10_isKept 137 rfl) (by decide) ?_
        exact Ev.iret .boolean (am_dt kX10_isKept 139 rfl) rfl rfl k
      · have k := k.2 (mt am_lc.mpr c)
        refine Ev.aload_n 0 (am_dt kX10_isKept 16 rfl) rfl rfl ?_
        refine Ev.getJ (ci := 10) (k := 7) (am_dt kX10_isKept 17 rfl) (by decide) (by decide) rfl wd_589 f1.1 ?_
        refine Ev.ldc2 (v := 1359415) (am_dt kX10_isKept 18 rfl) wd_637 ?_
        refine Ev.lcmp (am_dt kX10_isKept 19 rfl) ?_
        refine Ev.if_eq (tgt := 296) (am_dt kX10_isKept 20 rfl) (by decide) (fun c => ?_) (fun c => ?_)
        · have k := k.1 (am_lc.mp c)
          refine Ev.iconst (v := 1) (am_dt kX10_isKept 136 rfl) (by decide) ?_
          refine Ev.goto (tgt := 301) (am_dt kX10_isKept 137 rfl) (by decide) ?_
          exact Ev.iret .boolean (am_dt kX10_isKept 139 rfl) rfl rfl k
        · have k := k.2 (mt am_lc.mpr c)
          refine Ev.aload_n 0 (am_dt kX10_isKept 21 rfl) rfl rfl ?_
          refine Ev.getJ (ci := 10) (k := 7) (am_dt kX10_isKept 22 rfl) (by decide) (by decide) rfl wd_589 f1.1 ?_
          refine Ev.ldc2 (v := 380651) (am_dt kX10_isKept 23 rfl) wd_638 ?_
          refine Ev.lcmp (am_dt kX10_isKept 24 rfl) ?_
          refine Ev.if_eq (tgt := 296) (am_dt kX10_isKept 25 rfl) (by decide) (fun c => ?_) (fun c => ?_)
          · have k := k.1 (am_lc.mp c)
            refine Ev.iconst (v := 1) (am_dt kX10_isKept 136 rfl) (by decide) ?_
            refine Ev.goto (tgt := 301) (am_dt kX10_isKept 137 rfl) (by decide) ?_
            exact Ev.iret .boolean (am_dt kX10_isKept 139 rfl) rfl rfl k
          · have k := k.2 (mt am_lc.mpr c)
            refine Ev.aload_n 0 (am_dt kX10_isKept 26 rfl) rfl rfl ?_
            refine Ev.getJ (ci := 10) (k := 7) (am_dt kX10_isKept 27 rfl) (by decide) (by decide) rfl wd_589 f1.1 ?_
            refine Ev.ldc2 (v := 411) (am_dt kX10_isKept 28 rfl) wd_639 ?_
            refine Ev.lcmp (am_dt kX10_isKept 29 rfl) ?_
            refine Ev.if_eq (tgt := 296) (am_dt kX10_isKept 30 rfl) (by decide) (fun c => ?_) (fun c => ?_)
            · have k := k.1 (am_lc.mp c)
              refine Ev.iconst (v := 1) (am_dt kX10_isKept 136 rfl) (by decide) ?_
              refine Ev.goto (tgt := 301) (am_dt kX10_isKept 137 rfl) (by decide) ?_
              exact Ev.iret .boolean (am_dt kX10_isKept 139 rfl) rfl rfl k
            · have k := k.2 (mt am_lc.mpr c)
              refine Ev.aload_n 0 (am_dt kX10_isKept 31 rfl) rfl rfl ?_
              refine Ev.getJ (ci := 10) (k := 7) (am_dt kX10_isKept 32 rfl) (by decide) (by decide) rfl wd_589 f1.1 ?_
              refine Ev.ldc2 (v := 70340) (am_dt kX10_isKept 33 rfl) wd_640 ?_
              refine Ev.lcmp (am_dt kX10_isKept 34 rfl) ?_
              refine Ev.if_eq (tgt := 296) (am_dt kX10_isKept 35 rfl) (by decide) (fun c => ?_) (fun c => ?_)
              · have k := k.1 (am_lc.mp c)
                refine Ev.iconst (v := 1) (am_dt kX10_isKept 136 rfl) (by decide) ?_
                refine Ev.goto (tgt := 301) (am_dt kX10_isKept 137 rfl) (by decide) ?_
                exact Ev.iret .boolean (am_dt kX10_isKept 139 rfl) rfl rfl k
              · have k := k.2 (mt am_lc.mpr c)
                refine Ev.aload_n 0 (am_dt kX10_isKept 36 rfl) rfl rfl ?_
                refine Ev.getJ (ci := 10) (k := 7) (am_dt kX10_isKept 37 rfl) (by decide) (by decide) rfl wd_589 f1.1 ?_
                refine Ev.ldc2 (v := 8798) (am_dt kX10_isKept 38 rfl) wd_641 ?_
                refine Ev.lcmp (am_dt kX10_isKept 39 rfl) ?_
                refine Ev.if_eq (tgt := 296) (am_dt kX10_isKept 40 rfl) (by decide) (fun c => ?_) (fun c => ?_)
                · have k := k.1 (am_lc.mp c)
                  refine Ev.iconst (v := 1) (am_dt kX10_isKept 136 rfl) (by decide) ?_
                  refine Ev.goto (tgt := 301) (am_dt kX10_isKept 137 rfl) (by decide) ?_
                  exact Ev.iret .boolean (am_dt kX10_isKept 139 rfl) rfl rfl k
                · have k := k.2 (mt am_lc.mpr c)
                  refine Ev.aload_n 0 (am_dt kX10_isKept 41 rfl) rfl rfl ?_
                  refine Ev.getJ (ci := 10) (k := 7) (am_dt kX10_isKept 42 rfl) (by decide) (by decide) rfl wd_589 f1.1 ?_
                  refine Ev.ldc2 (v := 232608281) (am_dt kX10_isKept 43 rfl) wd_642 ?_
                  refine Ev.lcmp (am_dt kX10_isKept 44 rfl) ?_
                  refine Ev.if_eq (tgt := 296) (am_dt kX10_isKept 45 rfl) (by decide) (fun c => ?_) (fun c => ?_)
                  · have k := k.1 (am_lc.mp c)
                    refine Ev.iconst (v := 1) (am_dt kX10_isKept 136 rfl) (by decide) ?_
                    refine Ev.goto (tgt := 301) (am_dt kX10_isKept 137 rfl) (by decide) ?_
                    exact Ev.iret .boolean (am_dt kX10_isKept 139 rfl) rfl rfl k
                  · have k := k.2 (mt am_lc.mpr c)
                    refine Ev.aload_n 0 (am_dt kX10_isKept 46 rfl) rfl rfl ?_
                    refine Ev.getJ (ci := 10) (k := 7) (am_dt kX10_isKept 47 rfl) (by decide) (by decide) rfl wd_589 f1.1 ?_
                    refine Ev.ldc2 (v := 47) (am_dt kX10_isKept 48 rfl) wd_643 ?_
                    refine Ev.lcmp (am_dt kX10_isKept 49 rfl) ?_
                    refine Ev.if_eq (tgt := 296) (am_dt kX10_isKept 50 rfl) (by decide) (fun c => ?_) (fun c => ?_)
                    · have k := k.1 (am_lc.mp c)
                      refine Ev.iconst (v := 1) (am_dt kX10_isKept 136 rfl) (by decide) ?_
                      refine Ev.goto (tgt := 301) (am_dt kX10_isKept 137 rfl) (by decide) ?_
                      exact Ev.iret .boolean (am_dt kX10_isKept 139 rfl) rfl rfl k
                    · have k := k.2 (mt am_lc.mpr c)
                      refine Ev.aload_n 0 (am_dt kX10_isKept 51 rfl) rfl rfl ?_
                      refine Ev.getJ (ci := 10) (k := 7) (am_dt kX10_isKept 52 rfl) (by decide) (by decide) rfl wd_589 f1.1 ?_
                      refine Ev.ldc2 (v := 332864552) (am_dt kX10_isKept 53 rfl) wd_644 ?_
                      refine Ev.lcmp (am_dt kX10_isKept 54 rfl) ?_
                      refine Ev.if_eq (tgt := 296) (am_dt kX10_isKept 55 rfl) (by decide) (fun c => ?_) (fun c => ?_)
                      · have k := k.1 (am_lc.mp c)
                        refine Ev.iconst (v := 1) (am_dt kX10_isKept 136 rfl) (by decide) ?_
                        refine Ev.goto (tgt := 301) (am_dt kX10_isKept 137 rfl) (by decide) ?_
                        exact Ev.iret .boolean (am_dt kX10_isKept 139 rfl) rfl rfl k
                      · have k := k.2 (mt am_lc.mpr c)
                        refine Ev.aload_n 0 (am_dt kX10_isKept 56 rfl) rfl rfl ?_
                        refine Ev.getJ (ci := 10) (k := 7) (am_dt kX10_isKept 57 rfl) (by decide) (by decide) rfl wd_589 f1.1 ?_
                        refine Ev.ldc2 (v := 70517) (am_dt kX10_isKept 58 rfl) wd_645 ?_
                        refine Ev.lcmp (am_dt kX10_isKept 59 rfl) ?_
                        refine Ev.if_eq (tgt := 296) (am_dt kX10_isKept 60 rfl) (by decide) (fun c => ?_) (fun c => ?_)
                        · have k := k.1 (am_lc.mp c)
                          refine Ev.iconst (v := 1) (am_dt kX10_isKept 136 rfl) (by decide) ?_
                          refine Ev.goto (tgt := 301) (am_dt kX10_isKept 137 rfl) (by decide) ?_
                          exact Ev.iret .boolean (am_dt kX10_isKept 139 rfl) rfl rfl k
                        · have k := k.2 (mt am_lc.mpr c)
                          refine Ev.aload_n 0 (am_dt kX10_isKept 61 rfl) rfl rfl ?_
                          refine Ev.getJ (ci := 10) (k := 7) (am_dt kX10_isKept 62 rfl) (by decide) (by decide) rfl wd_589 f1.1 ?_
                          refine Ev.ldc2 (v := 240023) (am_dt kX10_isKept 63 rfl) wd_599 ?_
                          refine Ev.lcmp (am_dt kX10_isKept 64 rfl) ?_
                          refine Ev.if_eq (tgt := 296) (am_dt kX10_isKept 65 rfl) (by decide) (fun c => ?_) (fun c => ?_)
                          · have k := k.1 (am_lc.mp c)
                            refine Ev.iconst (v := 1) (am_dt kX10_isKept 136 rfl) (by decide) ?_
                            refine Ev.goto (tgt := 301) (am_dt kX10_isKept 137 rfl) (by decide) ?_
                            exact Ev.iret .boolean (am_dt kX10_isKept 139 rfl) rfl rfl k
                          · have k := k.2 (mt am_lc.mpr c)
                            refine Ev.aload_n 0 (am_dt kX10_isKept 66 rfl) rfl rfl ?_
                            refine Ev.getJ (ci := 10) (k := 7) (am_dt kX10_isKept 67 rfl) (by decide) (by decide) rfl wd_589 f1.1 ?_
                            refine Ev.ldc2 (v := 9748424) (am_dt kX10_isKept 68 rfl) wd_600 ?_
                            refine Ev.lcmp (am_dt kX10_isKept 69 rfl) ?_
                            refine Ev.if_eq (tgt := 296) (am_dt kX10_isKept 70 rfl) (by decide) (fun c => ?_) (fun c => ?_)
                            · have k := k.1 (am_lc.mp c)
                              refine Ev.iconst (v := 1) (am_dt kX10_isKept 136 rfl) (by decide) ?_
                              refine Ev.goto (tgt := 301) (am_dt kX10_isKept 137 rfl) (by decide) ?_
                              exact Ev.iret .boolean (am_dt kX10_isKept 139 rfl) rfl rfl k
                            · have k := k.2 (mt am_lc.mpr c)
                              refine Ev.aload_n 0 (am_dt kX10_isKept 71 rfl) rfl rfl ?_
                              refine Ev.getJ (ci := 10) (k := 7) (am_dt kX10_isKept 72 rfl) (by decide) (by decide) rfl wd_589 f1.1 ?_
                              refine Ev.ldc2 (v := 6624454) (am_dt kX10_isKept 73 rfl) wd_601 ?_
                              refine Ev.lcmp (am_dt kX10_isKept 74 rfl) ?_
                              refine Ev.if_eq (tgt := 296) (am_dt kX10_isKept 75 rfl) (by decide) (fun c => ?_) (fun c => ?_)
                              · have k := k.1 (am_lc.mp c)
                                refine Ev.iconst (v := 1) (am_dt kX10_isKept 136 rfl) (by decide) ?_
                                refine Ev.goto (tgt := 301) (am_dt kX10_isKept 137 rfl) (by decide) ?_
                                exact Ev.iret .boolean (am_dt kX10_isKept 139 rfl) rfl rfl k
                              · have k := k.2 (mt am_lc.mpr c)
                                refine Ev.aload_n 0 (am_dt kX10_isKept 76 rfl) rfl rfl ?_
                                refine Ev.getJ (ci := 10) (k := 7) (am_dt kX10_isKept 77 rfl) (by decide) (by decide) rfl wd_589 f1.1 ?_
                                refine Ev.ldc2 (v := 9813100) (am_dt kX10_isKept 78 rfl) wd_602 ?_
                                refine Ev.lcmp (am_dt kX10_isKept 79 rfl) ?_
                                refine Ev.if_eq (tgt := 296) (am_dt kX10_isKept 80 rfl) (by decide) (fun c => ?_) (fun c => ?_)
                                · have k := k.1 (am_lc.mp c)
                                  refine Ev.iconst (v := 1) (am_dt kX10_isKept 136 rfl) (by decide) ?_
                                  refine Ev.goto (tgt := 301) (am_dt kX10_isKept 137 rfl) (by decide) ?_
                                  exact Ev.iret .boolean (am_dt kX10_isKept 139 rfl) rfl rfl k
                                · have k := k.2 (mt am_lc.mpr c)
                                  refine Ev.aload_n 0 (am_dt kX10_isKept 81 rfl) rfl rfl ?_
                                  refine Ev.getJ (ci := 10) (k := 7) (am_dt kX10_isKept 82 rfl) (by decide) (by decide) rfl wd_589 f1.1 ?_
                                  refine Ev.ldc2 (v := 453701) (am_dt kX10_isKept 83 rfl) wd_603 ?_
                                  refine Ev.lcmp (am_dt kX10_isKept 84 rfl) ?_
                                  refine Ev.if_eq (tgt := 296) (am_dt kX10_isKept 85 rfl) (by decide) (fun c => ?_) (fun c => ?_)
                                  · have k := k.1 (am_lc.mp c)
                                    refine Ev.iconst (v := 1) (am_dt kX10_isKept 136 rfl) (by decide) ?_
                                    refine Ev.goto (tgt := 301) (am_dt kX10_isKept 137 rfl) (by decide) ?_
                                    exact Ev.iret .boolean (am_dt kX10_isKept 139 rfl) rfl rfl k
                                  · have k := k.2 (mt am_lc.mpr c)
                                    refine Ev.aload_n 0 (am_dt kX10_isKept 86 rfl) rfl rfl ?_
                                    refine Ev.getJ (ci := 10) (k := 7) (am_dt kX10_isKept 87 rfl) (by decide) (by decide) rfl wd_589 f1.1 ?_
                                    refine Ev.ldc2 (v := 191610176) (am_dt kX10_isKept 88 rfl) wd_604 ?_
                                    refine Ev.lcmp (am_dt kX10_isKept 89 rfl) ?_
                                    refine Ev.if_eq (tgt := 296) (am_dt kX10_isKept 90 rfl) (by decide) (fun c => ?_) (fun c => ?_)
                                    · have k := k.1 (am_lc.mp c)
                                      refine Ev.iconst (v := 1) (am_dt kX10_isKept 136 rfl) (by decide) ?_
                                      refine Ev.goto (tgt := 301) (am_dt kX10_isKept 137 rfl) (by decide) ?_
                                      exact Ev.iret .boolean (am_dt kX10_isKept 139 rfl) rfl rfl k
                                    · have k := k.2 (mt am_lc.mpr c)
                                      refine Ev.aload_n 0 (am_dt kX10_isKept 91 rfl) rfl rfl ?_
                                      refine Ev.getJ (ci := 10) (k := 7) (am_dt kX10_isKept 92 rfl) (by decide) (by decide) rfl wd_589 f1.1 ?_
                                      refine Ev.ldc2 (v := 8740238) (am_dt kX10_isKept 93 rfl) wd_646 ?_
                                      refine Ev.lcmp (am_dt kX10_isKept 94 rfl) ?_
                                      refine Ev.if_eq (tgt := 296) (am_dt kX10_isKept 95 rfl) (by decide) (fun c => ?_) (fun c => ?_)
                                      · have k := k.1 (am_lc.mp c)
                                        refine Ev.iconst (v := 1) (am_dt kX10_isKept 136 rfl) (by decide) ?_
                                        refine Ev.goto (tgt := 301) (am_dt kX10_isKept 137 rfl) (by decide) ?_
                                        exact Ev.iret .boolean (am_dt kX10_isKept 139 rfl) rfl rfl k
                                      · have k := k.2 (mt am_lc.mpr c)
                                        refine Ev.aload_n 0 (am_dt kX10_isKept 96 rfl) rfl rfl ?_
                                        refine Ev.getJ (ci := 10) (k := 7) (am_dt kX10_isKept 97 rfl) (by decide) (by decide) rfl wd_589 f1.1 ?_
                                        refine Ev.ldc2 (v := 3328) (am_dt kX10_isKept 98 rfl) wd_647 ?_
                                        refine Ev.lcmp (am_dt kX10_isKept 99 rfl) ?_
                                        refine Ev.if_eq (tgt := 296) (am_dt kX10_isKept 100 rfl) (by decide) (fun c => ?_) (fun c => ?_)
                                        · have k := k.1 (am_lc.mp c)
                                          refine Ev.iconst (v := 1) (am_dt kX10_isKept 136 rfl) (by decide) ?_
                                          refine Ev.goto (tgt := 301) (am_dt kX10_isKept 137 rfl) (by decide) ?_
                                          exact Ev.iret .boolean (am_dt kX10_isKept 139 rfl) rfl rfl k
                                        · have k := k.2 (mt am_lc.mpr c)
                                          refine Ev.aload_n 0 (am_dt kX10_isKept 101 rfl) rfl rfl ?_
                                          refine Ev.getJ (ci := 10) (k := 7) (am_dt kX10_isKept 102 rfl) (by decide) (by decide) rfl wd_589 f1.1 ?_
                                          refine Ev.ldc2 (v := 1758676) (am_dt kX10_isKept 103 rfl) wd_648 ?_
                                          refine Ev.lcmp (am_dt kX10_isKept 104 rfl) ?_
                                          refine Ev.if_eq (tgt := 296) (am_dt kX10_isKept 105 rfl) (by decide) (fun c => ?_) (fun c => ?_)
                                          · have k := k.1 (am_lc.mp c)
                                            refine Ev.iconst (v := 1) (am_dt kX10_isKept 136 rfl) (by decide) ?_
                                            refine Ev.goto (tgt := 301) (am_dt kX10_isKept 137 rfl) (by decide) ?_
                                            exact Ev.iret .boolean (am_dt kX10_isKept 139 rfl) rfl rfl k
                                          · have k := k.2 (mt am_lc.mpr c)
                                            refine Ev.aload_n 0 (am_dt kX10_isKept 106 rfl) rfl rfl ?_
                                            refine Ev.getJ (ci := 10) (k := 7) (am_dt kX10_isKept 107 rfl) (by decide) (by decide) rfl wd_589 f1.1 ?_
                                            refine Ev.ldc2 (v := 60284) (am_dt kX10_isKept 108 rfl) wd_649 ?_
                                            refine Ev.lcmp (am_dt kX10_isKept 109 rfl) ?_
                                            refine Ev.if_eq (tgt := 296) (am_dt kX10_isKept 110 rfl) (by decide) (fun c => ?_) (fun c => ?_)
                                            · have k := k.1 (am_lc.mp c)
                                              refine Ev.iconst (v := 1) (am_dt kX10_isKept 136 rfl) (by decide) ?_
                                              refine Ev.goto (tgt := 301) (am_dt kX10_isKept 137 rfl) (by decide) ?_
                                              exact Ev.iret .boolean (am_dt kX10_isKept 139 rfl) rfl rfl k
                                            · have k := k.2 (mt am_lc.mpr c)
                                              refine Ev.aload_n 0 (am_dt kX10_isKept 111 rfl) rfl rfl ?_
                                              refine Ev.getJ (ci := 10) (k := 7) (am_dt kX10_isKept 112 rfl) (by decide) (by decide) rfl wd_589 f1.1 ?_
                                              refine Ev.ldc2 (v := 298503054) (am_dt kX10_isKept 113 rfl) wd_650 ?_
                                              refine Ev.lcmp (am_dt kX10_isKept 114 rfl) ?_
                                              refine Ev.if_eq (tgt := 296) (am_dt kX10_isKept 115 rfl) (by decide) (fun c => ?_) (fun c => ?_)
                                              · have k := k.1 (am_lc.mp c)
                                                refine Ev.iconst (v := 1) (am_dt kX10_isKept 136 rfl) (by decide) ?_
                                                refine Ev.goto (tgt := 301) (am_dt kX10_isKept 137 rfl) (by decide) ?_
                                                exact Ev.iret .boolean (am_dt kX10_isKept 139 rfl) rfl rfl k
                                              · have k := k.2 (mt am_lc.mpr c)
                                                refine Ev.aload_n 0 (am_dt kX10_isKept 116 rfl) rfl rfl ?_
                                                refine Ev.getJ (ci := 10) (k := 7) (am_dt kX10_isKept 117 rfl) (by decide) (by decide) rfl wd_589 f1.1 ?_
                                                refine Ev.ldc2 (v := 1285333587) (am_dt kX10_isKept 118 rfl) wd_651 ?_
                                                refine Ev.lcmp (am_dt kX10_isKept 119 rfl) ?_
                                                refine Ev.if_eq (tgt := 296) (am_dt kX10_isKept 120 rfl) (by decide) (fun c => ?_) (fun c => ?_)
                                                · have k := k.1 (am_lc.mp c)
                                                  refine Ev.iconst (v := 1) (am_dt kX10_isKept 136 rfl) (by decide) ?_
                                                  refine Ev.goto (tgt := 301) (am_dt kX10_isKept 137 rfl) (by decide) ?_
                                                  exact Ev.iret .boolean (am_dt kX10_isKept 139 rfl) rfl rfl k
                                                · have k := k.2 (mt am_lc.mpr c)
                                                  refine Ev.aload_n 0 (am_dt kX10_isKept 121 rfl) rfl rfl ?_
                                                  refine Ev.getJ (ci := 10) (k := 7) (am_dt kX10_isKept 122 rfl) (by decide) (by decide) rfl wd_589 f1.1 ?_
                                                  refine Ev.ldc2 (v := 10631) (am_dt kX10_isKept 123 rfl) wd_611 ?_
                                                  refine Ev.lcmp (am_dt kX10_isKept 124 rfl) ?_
                                                  refine Ev.if_eq (tgt := 296) (am_dt kX10_isKept 125 rfl) (by decide) (fun c => ?_) (fun c => ?_)
                                                  · have k := k.1 (am_lc.mp c)
                                                    refine Ev.iconst (v := 1) (am_dt kX10_isKept 136 rfl) (by decide) ?_
                                                    refine Ev.goto (tgt := 301) (am_dt kX10_isKept 137 rfl) (by decide) ?_
                                                    exact Ev.iret .boolean (am_dt kX10_isKept 139 rfl) rfl rfl k
                                                  · have k := k.2 (mt am_lc.mpr c)
                                                    refine Ev.aload_n 0 (am_dt kX10_isKept 126 rfl) rfl rfl ?_
                                                    refine Ev.getJ (ci := 10) (k := 7) (am_dt kX10_isKept 127 rfl) (by decide) (by decide) rfl wd_589 f1.1 ?_
                                                    refine Ev.ldc2 (v := 1111) (am_dt kX10_isKept 128 rfl) wd_618 ?_
                                                    refine Ev.lcmp (am_dt kX10_isKept 129 rfl) ?_
                                                    refine Ev.if_eq (tgt := 296) (am_dt kX10_isKept 130 rfl) (by decide) (fun c => ?_) (fun c => ?_)
                                                    · have k := k.1 (am_lc.mp c)
                                                      refine Ev.iconst (v := 1) (am_dt kX10_isKept 136 rfl) (by decide) ?_
                                                      refine Ev.goto (tgt := 301) (am_dt kX10_isKept 137 rfl) (by decide) ?_
                                                      exact Ev.iret .boolean (am_dt kX10_isKept 139 rfl) rfl rfl k
                                                    · have k := k.2 (mt am_lc.mpr c)
                                                      refine Ev.aload_n 0 (am_dt kX10_isKept 131 rfl) rfl rfl ?_
                                                      refine Ev.getJ (ci := 10) (k := 7) (am_dt kX10_isKept 132 rfl) (by decide) (by decide) rfl wd_589 f1.1 ?_
                                                      refine Ev.ldc2 (v := 423) (am_dt kX10_isKept 133 rfl) wd_619 ?_
                                                      refine Ev.lcmp (am_dt kX10_isKept 134 rfl) ?_
                                                      refine Ev.if_ne (tgt := 300) (am_dt kX10_isKept 135 rfl) (by decide) (fun c => ?_) (fun c => ?_)
                                                      · have k := k.2 (mt am_lc.mpr c)
                                                        refine Ev.iconst (v := 0) (am_dt kX10_isKept 138 rfl) (by decide) ?_
                                                        exact Ev.iret .boolean (am_dt kX10_isKept 139 rfl) rfl rfl k
                                                      · have k := k.1 (am_lc.mp c)
                                                        refine Ev.iconst (v := 1) (am_dt kX10_isKept 136 rfl) (by decide) ?_
                                                        refine Ev.goto (tgt := 301) (am_dt kX10_isKept 137 rfl) (by decide) ?_
                                                        exact Ev.iret .boolean (am_dt kX10_isKept 139 rfl) rfl rfl k
  · have k := k.2 c
    refine Ev.iconst (v := 1) (am_dt kX10_isKept 4 rfl) (by decide) ?_
    exact Ev.iret .boolean (am_dt kX10_isKept 5 rfl) rfl rfl k
set_option maxRecDepth 20000 in
set_option maxHeartbeats 2000000 in
theorem bX10_needsNumber_0 {w : am_W} {d : Nat} {h : am_H} {Q : Option Value → am_H → Prop} {a0 : Nat} {x1 : Int32} {x2 : Int32}  (k : (am_L 10 a0 h) ∧ (((hI h a0 6) = 2 → (EvM w mX10_within d [.int (hI h a0 8), .int x1, .int x2] h (fun r3 h2 => ∃ v4 : Int32, r3 = some (.int v4) ∧ ((v4 = 0 → ((am_L 10 a0 h2) ∧ (EvM w mX10_fails d [.ref a0, .int 4] h2 (fun r7 h6 => ∃ v8 : Int32, r7 = some (.int v8) ∧ (narrow .boolean (.int v8) = .int v8 ∧ (Q (some (.int v8)) h6)))))) ∧ (¬ v4 = 0 → ((am_L 10 a0 h2) ∧ (∀ h11 : am_H, h11 = sI h2 a0 35 (hI h2 a0 8) → (EvM w mX10_nextToken d [.ref a0] h11 (fun r13 h12 => r13 = none ∧ (Q (some (.int 1)) h12)))))))))) ∧ (¬ (hI h a0 6) = 2 → (EvM w mX10_fails d [.ref a0, .int 1] h (fun r15 h14 => ∃ v16 : Int32, r15 = some (.int v16) ∧ (narrow .boolean (.int v16) = .int v16 ∧ (Q (some (.int v16)) h14))))))) : EvM w mX10_needsNumber (d + 1) [.ref a0, .int x1, .int x2] h Q := by
  show Ev w (am_Z w) mX10_needsNumber (d + 1) 0 [(0, .ref a0), (1, .int x1), (2, .int x2)] [] h Q
  refine Ev.aload_n 0 (am_dt kX10_needsNumber 0 rfl) rfl rfl ?_
  obtain ⟨f1, k⟩ := k
  refine Ev.getI (ci := 10) (k := 6) (am_dt kX10_needsNumber 1 rfl) (by decide) (by decide) rfl wd_591 f1.1 ?_
  refine Ev.iconst (v := 2) (am_dt kX10_needsNumber 2 rfl) (by decide) ?_
  refine Ev.icmp_eq (tgt := 14) (am_dt kX10_needsNumber 3 rfl) (by decide) (fun c => ?_) (fun c => ?_)
  · have k := k.1 c
    refine Ev.aload_n 0 (am_dt kX10_needsNumber 8 rfl) rfl rfl ?_
    refine Ev.getI (ci := 10) (k := 8) (am_dt kX10_needsNumber 9 rfl) (by decide) (by decide) rfl wd_590 f1.1 ?_
    refine Ev.iload_n 1 (am_dt kX10_needsNumber 10 rfl) rfl rfl ?_
    refine Ev.iload_n 2 (am_dt kX10_needsNumber 11 rfl) rfl rfl ?_
    refine Ev.callS (v := mX10_within) (As := [.int (hI h a0 8), .int x1, .int x2]) (st := []) okX10_within wd_653 wd_652 (am_dt kX10_needsNumber 12 rfl) rfl rfl (Nat.le_of_ble_eq_true rfl) (Nat.le_of_ble_eq_true rfl) ?_
    refine EvM.mono k (fun r3 h2 k => ?_)
    obtain ⟨v4, rfl, k⟩ := k
    show Ev w _ _ _ 23 _ [.int v4] _ _
    refine Ev.if_ne (tgt := 32) (am_dt kX10_needsNumber 13 rfl) (by decide) (fun c => ?_) (fun c => ?_)
    · have k := k.2 c
      refine Ev.aload_n 0 (am_dt kX10_needsNumber 18 rfl) rfl rfl ?_
      refine Ev.aload_n 0 (am_dt kX10_needsNumber 19 rfl) rfl rfl ?_
      obtain ⟨f10, k⟩ := k
      refine Ev.getI (ci := 10) (k := 8) (am_dt kX10_needsNumber 20 rfl) (by decide) (by decide) rfl wd_590 f10.1 ?_
      refine Ev.putI' (ci := 10) (k := 35) (am_dt kX10_needsNumber 21 rfl) (by decide) (by decide) wd_654 rfl rfl rfl rfl f10.1 (fun h11 eh11 => ?_)
      have k := k h11 eh11
      have f10 := am_LsI eh11 f10
      refine Ev.aload_n 0 (am_dt kX10_needsNumber 22 rfl) rfl rfl ?_
      refine Ev.callV (ci := 10) (v := mX10_nextToken) (As := []) (st := []) okX10_nextToken wd_623 wd_624 wd_625 (am_dt kX10_needsNumber 23 rfl) (by decide) rfl rfl (Nat.le_of_ble_eq_true rfl) (Nat.le_of_ble_eq_true rfl) f10.1 ?_
      refine EvM.mono k (fun r13 h12 k => ?_)
      obtain ⟨rfl, k⟩ := k
      show Ev w _ _ _ 44 _ [] _ _
      refine Ev.iconst (v := 1) (am_dt kX10_needsNumber 24 rfl) (by decide) ?_
      exact Ev.iret .boolean (am_dt kX10_needsNumber 25 rfl) rfl rfl k
    · have k := k.1 c
      refine Ev.aload_n 0 (am_dt kX10_needsNumber 14 rfl) rfl rfl ?_
      refine Ev.iconst (v := 4) (am_dt kX10_needsNumber 15 rfl) (by decide) ?_
      obtain ⟨f5, k⟩ := k
      refine Ev.callV (ci := 10) (v := mX10_fails) (As := [.int 4]) (st := []) okX10_fails wd_615 wd_616 wd_617 (am_dt kX10_needsNumber 16 rfl) (by decide) rfl rfl (Nat.le_of_ble_eq_true rfl) (Nat.le_of_ble_eq_true rfl) f5.1 ?_
      refine EvM.mono k (fun r7 h6 k => ?_)
      obtain ⟨v8, rfl, k⟩ := k
      show Ev w _ _ _ 31 _ [.int v8] _ _
      exact Ev.iret .boolean (am_dt kX10_needsNumber 17 rfl) rfl k.1 k.2
  · have k := k.2 c
    refine Ev.aload_n 0 (am_dt kX10_needsNumber 4 rfl) rfl rfl ?_
    refine Ev.iconst (v := 1) (am_dt kX10_needsNumber 5 rfl) (by decide) ?_
    refine Ev.callV (ci := 10) (v := mX10_fails) (As := [.int 1]) (st := []) okX10_fails wd_615 wd_616 wd_617 (am_dt kX10_needsNumber 6 rfl) (by decide) rfl rfl (Nat.le_of_ble_eq_true rfl) (Nat.le_of_ble_eq_true rfl) f1.1 ?_
    refine EvM.mono k (fun r15 h14 k => ?_)
    obtain ⟨v16, rfl, k⟩ := k
    show Ev w _ _ _ 13 _ [.int v16] _ _
    exact Ev.iret .boolean (am_dt kX10_needsNumber 7 rfl) rfl k.1 k.2
set_option maxRecDepth 20000 in
set_option maxHeartbeats 2000000 in
theorem bX10_needsWord_0 {w : am_W} {d : Nat} {h : am_H} {Q : Option Value → am_H → Prop} {a0 : Nat} {y1 : Int64}  (k : (am_L 10 a0 h) ∧ (EvM w mX10_isWord d [.ref a0, .long y1] h (fun r3 h2 => ∃ v4 : Int32, r3 = some (.int v4) ∧ ((v4 = 0 → ((am_L 10 a0 h2) ∧ (EvM w mX10_fails d [.ref a0, .int 1] h2 (fun r7 h6 => ∃ v8 : Int32, r7 = some (.int v8) ∧ (narrow .boolean (.int v8) = .int v8 ∧ (Q (some (.int v8)) h6)))))) ∧ (¬ v4 = 0 → ((am_L 10 a0 h2) ∧ (EvM w mX10_nextToken d [.ref a0] h2 (fun r12 h11 => r12 = none ∧ (Q (some (.int 1)) h11))))))))) : EvM w mX10_needsWord (d + 1) [.ref a0, .long y1] h Q := by
  show Ev w (am_Z w) mX10_needsWord (d + 1) 0 [(0, .ref a0), (1, .long y1)] [] h Q
  refine Ev.aload_n 0 (am_dt kX10_needsWord 0 rfl) rfl rfl ?_
  refine Ev.lload_n 1 (am_dt kX10_needsWord 1 rfl) rfl rfl ?_
  obtain ⟨f1, k⟩ := k
  refine Ev.callV (ci := 10) (v := mX10_isWord) (As := [.long y1]) (st := []) okX10_isWord wd_612 wd_613 wd_614 (am_dt kX10_needsWord 2 rfl) (by decide) rfl rfl (Nat.le_of_ble_eq_true rfl) (Nat.le_of_ble_eq_true rfl) f1.1 ?_
  refine EvM.mono k (fun r3 h2 k => ?_)
  obtain ⟨v4, rfl, k⟩ := k
  show Ev w _ _ _ 5 _ [.int v4] _ _
  refine Ev.if_ne (tgt := 14) (am_dt kX10_needsWord 3 rfl) (by decide) (fun c => ?_) (fun c => ?_)
  · have k := k.2 c
    refine Ev.aload_n 0 (am_dt kX10_needsWord 8 rfl) rfl rfl ?_
    obtain ⟨f10, k⟩ := k
    refine Ev.callV (ci := 10) (v := mX10_nextToken) (As := []) (st := []) okX10_nextToken wd_623 wd_624 wd_625 (am_dt kX10_needsWord 9 rfl) (by decide) rfl rfl (Nat.le_of_ble_eq_true rfl) (Nat.le_of_ble_eq_true rfl) f10.1 ?_
    refine EvM.mono k (fun r12 h11 k => ?_)
    obtain ⟨rfl, k⟩ := k
    show Ev w _ _ _ 18 _ [] _ _
    refine Ev.iconst (v := 1) (am_dt kX10_needsWord 10 rfl) (by decide) ?_
    exact Ev.iret .boolean (am_dt kX10_needsWord 11 rfl) rfl rfl k
  · have k := k.1 c
    refine Ev.aload_n 0 (am_dt kX10_needsWord 4 rfl) rfl rfl ?_
    refine Ev.iconst (v := 1) (am_dt kX10_needsWord 5 rfl) (by decide) ?_
    obtain ⟨f5, k⟩ := k
    refine Ev.callV (ci := 10) (v := mX10_fails) (As := [.int 1]) (st := []) okX10_fails wd_615 wd_616 wd_617 (am_dt kX10_needsWord 6 rfl) (by decide) rfl rfl (Nat.le_of_ble_eq_true rfl) (Nat.le_of_ble_eq_true rfl) f5.1 ?_
    refine EvM.mono k (fun r7 h6 k => ?_)
    obtain ⟨v8, rfl, k⟩ := k
    show Ev w _ _ _ 13 _ [.int v8] _ _
    exact Ev.iret .boolean (am_dt kX10_needsWord 7 rfl) rfl k.1 k.2
set_option maxRecDepth 20000 in
set_option maxHeartbeats 2000000 in
theorem bX10_ends_0 {w : am_W} {d : Nat} {h : am_H} {Q : Option Value → am_H → Prop} {a0 : Nat}  (k : (am_L 10 a0 h) ∧ (EvM w mX10_isSign d [.ref a0, .int 59] h (fun r3 h2 => ∃ v4 : Int32, r3 = some (.int v4) ∧ ((v4 = 0 → ((am_L 10 a0 h2) ∧ (EvM w mX10_fails d [.ref a0, .int 1] h2 (fun r7 h6 => ∃ v8 : Int32, r7 = some (.int v8) ∧ (narrow .boolean (.int v8) = .int v8 ∧ (Q (some (.int v8)) h6)))))) ∧ (¬ v4 = 0 → ((am_L 10 a0 h2) ∧ (EvM w mX10_nextToken d [.ref a0] h2 (fun r12 h11 => r12 = none ∧ (Q (some (.int 1)) h11))))))))) : EvM w mX10_ends (d + 1) [.ref a0] h Q := by
  show Ev w (am_Z w) mX10_ends (d + 1) 0 [(0, .ref a0)] [] h Q
  refine Ev.aload_n 0 (am_dt kX10_ends 0 rfl) rfl rfl ?_
  refine Ev.bipush (v := 59) (am_dt kX10_ends 1 rfl) (by decide) ?_
  obtain ⟨f1, k⟩ := k
  refine Ev.callV (ci := 10) (v := mX10_isSign) (As := [.int 59]) (st := []) okX10_isSign wd_605 wd_606 wd_607 (am_dt kX10_ends 2 rfl) (by decide) rfl rfl (Nat.le_of_ble_eq_true rfl) (Nat.le_of_ble_eq_true rfl) f1.1 ?_
  refine EvM.mono k (fun r3 h2 k => ?_)
  obtain ⟨v4, rfl, k⟩ := k
  show Ev w _ _ _ 6 _ [.int v4] _ _
  refine Ev.if_ne (tgt := 15) (am_dt kX10_ends 3 rfl) (by decide) (fun c => ?_) (fun c => ?_)
  · have k := k.2 c
    refine Ev.aload_n 0 (am_dt kX10_ends 8 rfl) rfl rfl ?_
    obtain ⟨f10, k⟩ := k
    refine Ev.callV (ci := 10) (v := mX10_nextToken) (As := []) (st := []) okX10_nextToken wd_623 wd_624 wd_625 (am_dt kX10_ends 9 rfl) (by decide) rfl rfl (Nat.le_of_ble_eq_true rfl) (Nat.le_of_ble_eq_true rfl) f10.1 ?_
    refine EvM.mono k (fun r12 h11 k => ?_)
    obtain ⟨rfl, k⟩ := k
    show Ev w _ _ _ 19 _ [] _ _
    refine Ev.iconst (v := 1) (am_dt kX10_ends 10 rfl) (by decide) ?_
    exact Ev.iret .boolean (am_dt kX10_ends 11 rfl) rfl rfl k
  · have k := k.1 c
    refine Ev.aload_n 0 (am_dt kX10_ends 4 rfl) rfl rfl ?_
    refine Ev.iconst (v := 1) (am_dt kX10_ends 5 rfl) (by decide) ?_
    obtain ⟨f5, k⟩ := k
    refine Ev.callV (ci := 10) (v := mX10_fails) (As := [.int 1]) (st := []) okX10_fails wd_615 wd_616 wd_617 (am_dt kX10_ends 6 rfl) (by decide) rfl rfl (Nat.le_of_ble_eq_true rfl) (Nat.le_of_ble_eq_true rfl) f5.1 ?_
    refine EvM.mono k (fun r7 h6 k => ?_)
    obtain ⟨v8, rfl, k⟩ := k
    show Ev w _ _ _ 14 _ [.int v8] _ _
    exact Ev.iret .boolean (am_dt kX10_ends 7 rfl) rfl k.1 k.2
set_option maxRecDepth 20000 in
set_option maxHeartbeats 2000000 in
theorem bX10_readsOne_0 {w : am_W} {d : Nat} {h : am_H} {Q : Option Value → am_H → Prop} {a0 : Nat} {x1 : Int32} {x2 : Int32} {x3 : Int32}  (k : (am_L 10 a0 h) ∧ (((((hI h a0 22) >>> (x1 &&& 31)) &&& 1) = 1 → (EvM w mX10_fails d [.ref a0, .int 3] h (fun r3 h2 => ∃ v4 : Int32, r3 = some (.int v4) ∧ (narrow .boolean (.int v4) = .int v4 ∧ (Q (some (.int v4)) h2))))) ∧ (¬ (((hI h a0 22) >>> (x1 &&& 31)) &&& 1) = 1 → (∀ h6 : am_H, h6 = sI h a0 22 ((hI h a0 22) ||| ((1 : Int32) <<< (x1 &&& 31))) → (EvM w mX10_nextToken d [.ref a0] h6 (fun r8 h7 => r8 = none ∧ ((am_L 10 a0 h7) ∧ (EvM w mX10_needsNumber d [.ref a0, .int x2, .int x3] h7 (fun r11 h10 => ∃ v12 : Int32, r11 = some (.int v12) ∧ ((v12 = 0 → (Q (some (.int 0)) h10)) ∧ (¬ v12 = 0 → ((am_L 10 a0 h10) ∧ ((vp_in (10 + x1) (hN h10 (a0 + 2))) ∧ (∀ h15 : am_H, h15 = sI h10 (a0 + 2) (Int32.toNatClampNeg (10 + x1)) (hI h10 a0 35) → (EvM w mX10_ends d [.ref a0] h15 (fun r17 h16 => ∃ v18 : Int32, r17 = some (.int v18) ∧ (narrow .boolean (.int v18) = .int v18 ∧ (Q (some (.int v18)) h16)))))))))))))))))) : EvM w mX10_readsOne (d + 1) [.ref a0, .int x1, .int x2, .int x3] h Q := by
  show Ev w (am_Z w) mX10_readsOne (d + 1) 0 [(0, .ref a0), (1, .int x1), (2, .int x2), (3, .int x3)] [] h Q
  refine Ev.aload_n 0 (am_dt kX10_readsOne 0 rfl) rfl rfl ?_
  obtain ⟨f1, k⟩ := k
  refine Ev.getI (ci := 10) (k := 22) (am_dt kX10_readsOne 1 rfl) (by decide) (by decide) rfl wd_655 f1.1 ?_
  refine Ev.iload_n 1 (am_dt kX10_readsOne 2 rfl) rfl rfl ?_
  refine Ev.ishr (am_dt kX10_readsOne 3 rfl) ?_
  refine Ev.iconst (v := 1) (am_dt kX10_readsOne 4 rfl) (by decide) ?_
  refine Ev.iand (am_dt kX10_readsOne 5 rfl) ?_
  refine Ev.iconst (v := 1) (am_dt kX10_readsOne 6 rfl) (by decide) ?_
  refine Ev.icmp_ne (tgt := 18) (am_dt kX10_readsOne 7 rfl) (by decide) (fun c => ?_) (fun c => ?_)
  · have k := k.2 c
    refine Ev.aload_n 0 (am_dt kX10_readsOne 12 rfl) rfl rfl ?_
    refine Ev.dup (am_dt kX10_readsOne 13 rfl) rfl ?_
    refine Ev.getI (ci := 10) (k := 22) (am_dt kX10_readsOne 14 rfl) (by decide) (by decide) rfl wd_655 f1.1 ?_
    refine Ev.iconst (v := 1) (am_dt kX10_readsOne 15 rfl) (by decide) ?_
    refine Ev.iload_n 1 (am_dt kX10_readsOne 16 rfl) rfl rfl ?_
    refine Ev.ishl (am_dt kX10_readsOne 17 rfl) ?_
    refine Ev.ior (am_dt kX10_readsOne 18 rfl) ?_
    refine Ev.putI' (ci := 10) (k := 22) (am_dt kX10_readsOne 19 rfl) (by decide) (by decide) wd_655 rfl rfl rfl rfl f1.1 (fun h6 eh6 => ?_)
    have k := k h6 eh6
    have f1 := am_LsI eh6 f1
    refine Ev.aload_n 0 (am_dt kX10_readsOne 20 rfl) rfl rfl ?_
    refine Ev.callV (ci := 10) (v := mX10_nextToken) (As := []) (st := []) okX10_nextToken wd_623 wd_624 wd_625 (am_dt kX10_readsOne 21 rfl) (by decide) rfl rfl (Nat.le_of_ble_eq_true rfl) (Nat.le_of_ble_eq_true rfl) f1.1 ?_
    refine EvM.mono k (fun r8 h7 k => ?_)
    obtain ⟨rfl, k⟩ := k
    show Ev w _ _ _ 34 _ [] _ _
    refine Ev.aload_n 0 (am_dt kX10_readsOne 22 rfl) rfl rfl ?_
    refine Ev.iload_n 2 (am_dt kX10_readsOne 23 rfl) rfl rfl ?_
    refine Ev.iload_n 3 (am_dt kX10_readsOne 24 rfl) rfl rfl ?_
    obtain ⟨f9, k⟩ := k
    refine Ev.callV (ci := 10) (v := mX10_needsNumber) (As := [.int x2, .int x3]) (st := []) okX10_needsNumber wd_656 wd_657 wd_658 (am_dt kX10_readsOne 25 rfl) (by decide) rfl rfl (Nat.le_of_ble_eq_true rfl) (Nat.le_of_ble_eq_true rfl) f9.1 ?_
    refine EvM.mono k (fun r11 h10 k => ?_)
    obtain ⟨v12, rfl, k⟩ := k
    show Ev w _ _ _ 40 _ [.int v12] _ _
    refine Ev.if_ne (tgt := 45) (am_dt kX10_readsOne 26 rfl) (by decide) (fun c => ?_) (fun c => ?_)
    · have k := k.2 c
      refine Ev.aload_n 0 (am_dt kX10_readsOne 29 rfl) rfl rfl ?_
      obtain ⟨f13, k⟩ := k
      refine Ev.getRe (ci := 10) (k := 10) (r := a0 + 2) (am_dt kX10_readsOne 30 rfl) (by decide) (by decide) rfl wd_543 f13.1 (am_L.r f13 1 rfl) (by omega) ?_
      refine Ev.bipush (v := 10) (am_dt kX10_readsOne 31 rfl) (by decide) ?_
      refine Ev.iload_n 1 (am_dt kX10_readsOne 32 rfl) rfl rfl ?_
      refine Ev.iadd (am_dt kX10_readsOne 33 rfl) ?_
      refine Ev.aload_n 0 (am_dt kX10_readsOne 34 rfl) rfl rfl ?_
      refine Ev.getI (ci := 10) (k := 35) (am_dt kX10_readsOne 35 rfl) (by decide) (by decide) rfl wd_654 f13.1 ?_
      obtain ⟨f14, k⟩ := k
      refine Ev.iast' (am_dt kX10_readsOne 36 rfl) (am_L.s f13 1 rfl) f14 (fun h15 eh15 => ?_)
      have k := k h15 eh15
      have f13 := am_LsI eh15 f13
      refine Ev.aload_n 0 (am_dt kX10_readsOne 37 rfl) rfl rfl ?_
      refine Ev.callV (ci := 10) (v := mX10_ends) (As := []) (st := []) okX10_ends wd_659 wd_660 wd_661 (am_dt kX10_readsOne 38 rfl) (by decide) rfl rfl (Nat.le_of_ble_eq_true rfl) (Nat.le_of_ble_eq_true rfl) f13.1 ?_
      refine EvM.mono k (fun r17 h16 k => ?_)
      obtain ⟨v18, rfl, k⟩ := k
      show Ev w _ _ _ 62 _ [.int v18] _ _
      exact Ev.iret .boolean (am_dt kX10_readsOne 39 rfl) rfl k.1 k.2
    · have k := k.1 c
      refine Ev.iconst (v := 0) (am_dt kX10_readsOne 27 rfl) (by decide) ?_
      exact Ev.iret .boolean (am_dt kX10_readsOne 28 rfl) rfl rfl k
  · have k := k.1 c
    refine Ev.aload_n 0 (am_dt kX10_readsOne 8 rfl) rfl rfl ?_
    refine Ev.iconst (v := 3) (am_dt kX10_readsOne 9 rfl) (by decide) ?_
    refine Ev.callV (ci := 10) (v := mX10_fails) (As := [.int 3]) (st := []) okX10_fails wd_615 wd_616 wd_617 (am_dt kX10_readsOne 10 rfl) (by decide) rfl rfl (Nat.le_of_ble_eq_true rfl) (Nat.le_of_ble_eq_true rfl) f1.1 ?_
    refine EvM.mono k (fun r3 h2 k => ?_)
    obtain ⟨v4, rfl, k⟩ := k
    show Ev w _ _ _ 17 _ [.int v4] _ _
    exact Ev.iret .boolean (am_dt kX10_readsOne 11 rfl) rfl k.1 k.2
set_option maxRecDepth 20000 in
set_option maxHeartbeats 2000000 in
theorem bX10_readsSide_0 {w : am_W} {d : Nat} {h : am_H} {Q : Option Value → am_H → Prop} {a0 : Nat}  (k : (am_L 10 a0 h) ∧ (((((hI h a0 22) >>> (3 &&& 31)) &&& 1) = 1 → (EvM w mX10_fails d [.ref a0, .int 3] h (fun r3 h2 => ∃ v4 : Int32, r3 = some (.int v4) ∧ (narrow .boolean (.int v4) = .int v4 ∧ (Q (some (.int v4)) h2))))) ∧ (¬ (((hI h a0 22) >>> (3 &&& 31)) &&& 1) = 1 → (∀ h6 : am_H, h6 = sI h a0 22 ((hI h a0 22) ||| 8) → (EvM w mX10_nextToken d [.ref a0] h6 (fun r8 h7 => r8 = none ∧ ((am_L 10 a0 h7) ∧ (EvM w mX10_needsNumber d [.ref a0, .int 1, .int 8] h7 (fun r11 h10 => ∃ v12 : Int32, r11 = some (.int v12) ∧ ((v12 = 0 → (Q (some (.int 0)) h10)) ∧ (¬ v12 = 0 → ((am_L 10 a0 h10) ∧ ((vp_in 13 (hN h10 (a0 + 2))) ∧ (∀ h15 : am_H, h15 = sI h10 (a0 + 2) (Int32.toNatClampNeg 13) (hI h10 a0 35) → (EvM w mX10_needsWord d [.ref a0, .long 411] h15 (fun r17 h16 => ∃ v18 : Int32, r17 = some (.int v18) ∧ ((v18 = 0 → (Q (some (.int 0)) h16)) ∧ (¬ v18 = 0 → ((am_L 10 a0 h16) ∧ ((vp_in 13 (hN h16 (a0 + 2))) ∧ (EvM w mX10_needsNumber d [.ref a0, .int (if 2 < ((hI h16 (a0 + 2) (Int32.toNatClampNeg 13)) + 1) then ((hI h16 (a0 + 2) (Int32.toNatClampNeg 13)) + 1) else 2), .int 9] h16 (fun r22 h21 => ∃ v23 : Int32, r22 = some (.int v23) ∧ ((v23 = 0 → (Q (some (.int 0)) h21)) ∧ (¬ v23 = 0 → ((am_L 10 a0 h21) ∧ ((vp_in 14 (hN h21 (a0 + 2))) ∧ (∀ h26 : am_H, h26 = sI h21 (a0 + 2) (Int32.toNatClampNeg 14) (hI h21 a0 35) → (EvM w mX10_ends d [.ref a0] h26 (fun r28 h27 => ∃ v29 : Int32, r28 = some (.int v29) ∧ (narrow .boolean (.int v29) = .int v29 ∧ (Q (some (.int v29)) h27))))))))))))))))))))))))))))))) : EvM w mX10_readsSide (d + 1) [.ref a0] h Q := by
  show Ev w (am_Z w) mX10_readsSide (d + 1) 0 [(0, .ref a0)] [] h Q
  refine Ev.aload_n 0 (am_dt kX10_readsSide 0 rfl) rfl rfl ?_
  obtain ⟨f1, k⟩ := k
  refine Ev.getI (ci := 10) (k := 22) (am_dt kX10_readsSide 1 rfl) (by decide) (by decide) rfl wd_655 f1.1 ?_
  refine Ev.iconst (v := 3) (am_dt kX10_readsSide 2 rfl) (by decide) ?_
  refine Ev.ishr (am_dt kX10_readsSide 3 rfl) ?_
  refine Ev.iconst (v := 1) (am_dt kX10_readsSide 4 rfl) (by decide) ?_
  refine Ev.iand (am_dt kX10_readsSide 5 rfl) ?_
  refine Ev.iconst (v := 1) (am_dt kX10_readsSide 6 rfl) (by decide) ?_
  refine Ev.icmp_ne (tgt := 18) (am_dt kX10_readsSide 7 rfl) (by decide) (fun c => ?_) (fun c => ?_)
  · have k := k.2 c
    refine Ev.aload_n 0 (am_dt kX10_readsSide 12 rfl) rfl rfl ?_
    refine Ev.dup (am_dt kX10_readsSide 13 rfl) rfl ?_
    refine Ev.getI (ci := 10) (k := 22) (am_dt kX10_readsSide 14 rfl) (by decide) (by decide) rfl wd_655 f1.1 ?_
    refine Ev.bipush (v := 8) (am_dt kX10_readsSide 15 rfl) (by decide) ?_
    refine Ev.ior (am_dt kX10_readsSide 16 rfl) ?_
    refine Ev.putI' (ci := 10) (k := 22) (am_dt kX10_readsSide 17 rfl) (by decide) (by decide) wd_655 rfl rfl rfl rfl f1.1 (fun h6 eh6 => ?_)
    have k := k h6 eh6
    have f1 := am_LsI eh6 f1
    refine Ev.aload_n 0 (am_dt kX10_readsSide 18 rfl) rfl rfl ?_
    refine Ev.callV (ci := 10) (v := mX10_nextToken) (As := []) (st := []) okX10_nextToken wd_623 wd_624 wd_625 (am_dt kX10_readsSide 19 rfl) (by decide) rfl rfl (Nat.le_of_ble_eq_true rfl) (Nat.le_of_ble_eq_true rfl) f1.1 ?_
    refine EvM.mono k (fun r8 h7 k => ?_)
    obtain ⟨rfl, k⟩ := k
    show Ev w _ _ _ 33 _ [] _ _
    refine Ev.aload_n 0 (am_dt kX10_readsSide 20 rfl) rfl rfl ?_
    refine Ev.iconst (v := 1) (am_dt kX10_readsSide 21 rfl) (by decide) ?_
    refine Ev.bipush (v := 8) (am_dt kX10_readsSide 22 rfl) (by decide) ?_
    obtain ⟨f9, k⟩ := k
    refine Ev.callV (ci := 10) (v := mX10_needsNumber) (As := [.int 1, .int 8]) (st := []) okX10_needsNumber wd_656 wd_657 wd_658 (am_dt kX10_readsSide 23 rfl) (by decide) rfl rfl (Nat.le_of_ble_eq_true rfl) (Nat.le_of_ble_eq_true rfl) f9.1 ?_
    refine EvM.mono k (fun r11 h10 k => ?_)
    obtain ⟨v12, rfl, k⟩ := k
    show Ev w _ _ _ 40 _ [.int v12] _ _
    refine Ev.if_ne (tgt := 45) (am_dt kX10_readsSide 24 rfl) (by decide) (fun c => ?_) (fun c => ?_)
    · have k := k.2 c
      refine Ev.aload_n 0 (am_dt kX10_readsSide 27 rfl) rfl rfl ?_
      obtain ⟨f13, k⟩ := k
      refine Ev.getRe (ci := 10) (k := 10) (r := a0 + 2) (am_dt kX10_readsSide 28 rfl) (by decide) (by decide) rfl wd_543 f13.1 (am_L.r f13 1 rfl) (by omega) ?_
      refine Ev.bipush (v := 13) (am_dt kX10_readsSide 29 rfl) (by decide) ?_
      refine Ev.aload_n 0 (am_dt kX10_readsSide 30 rfl) rfl rfl ?_
      refine Ev.getI (ci := 10) (k := 35) (am_dt kX10_readsSide 31 rfl) (by decide) (by decide) rfl wd_654 f13.1 ?_
      obtain ⟨f14, k⟩ := k
      refine Ev.iast' (am_dt kX10_readsSide 32 rfl) (am_L.s f13 1 rfl) f14 (fun h15 eh15 => ?_)
      have k := k h15 eh15
      have f13 := am_LsI eh15 f13
      refine Ev.aload_n 0 (am_dt kX10_readsSide 33 rfl) rfl rfl ?_
      refine Ev.ldc2 (v := 411) (am_dt kX10_readsSide 34 rfl) wd_639 ?_
      refine Ev.callV (ci := 10) (v := mX10_needsWord) (As := [.long 411]) (st := []) okX10_needsWord wd_662 wd_663 wd_664 (am_dt kX10_readsSide 35 rfl) (by decide) rfl rfl (Nat.le_of_ble_eq_true rfl) (Nat.le_of_ble_eq_true rfl) f13.1 ?_
      refine EvM.mono k (fun r17 h16 k => ?_)
      obtain ⟨v18, rfl, k⟩ := k
      show Ev w _ _ _ 63 _ [.int v18] _ _
      refine Ev.if_eq (tgt := 88) (am_dt kX10_readsSide 36 rfl) (by decide) (fun c => ?_) (fun c => ?_)
      · have k := k.1 c
        refine Ev.iconst (v := 0) (am_dt kX10_readsSide 49 rfl) (by decide) ?_
        exact Ev.iret .boolean (am_dt kX10_readsSide 50 rfl) rfl rfl k
      · have k := k.2 c
        refine Ev.aload_n 0 (am_dt kX10_readsSide 37 rfl) rfl rfl ?_
        refine Ev.iconst (v := 2) (am_dt kX10_readsSide 38 rfl) (by decide) ?_
        refine Ev.aload_n 0 (am_dt kX10_readsSide 39 rfl) rfl rfl ?_
        obtain ⟨f19, k⟩ := k
        refine Ev.getRe (ci := 10) (k := 10) (r := a0 + 2) (am_dt kX10_readsSide 40 rfl) (by decide) (by decide) rfl wd_543 f19.1 (am_L.r f19 1 rfl) (by omega) ?_
        refine Ev.bipush (v := 13) (am_dt kX10_readsSide 41 rfl) (by decide) ?_
        obtain ⟨f20, k⟩ := k
        refine Ev.iald (am_dt kX10_readsSide 42 rfl) (am_L.s f19 1 rfl) f20 ?_
        refine Ev.iconst (v := 1) (am_dt kX10_readsSide 43 rfl) (by decide) ?_
        refine Ev.iadd (am_dt kX10_readsSide 44 rfl) ?_
        refine Ev.mmax wd_665 wd_5 wd_6 wd_7 (am_dt kX10_readsSide 45 rfl) (Nat.le_of_ble_eq_true rfl) ?_
        refine Ev.bipush (v := 9) (am_dt kX10_readsSide 46 rfl) (by decide) ?_
        refine Ev.callV (ci := 10) (v := mX10_needsNumber) (As := [.int (if 2 < ((hI h16 (a0 + 2) (Int32.toNatClampNeg 13)) + 1) then ((hI h16 (a0 + 2) (Int32.toNatClampNeg 13)) + 1) else 2), .int 9]) (st := []) okX10_needsNumber wd_656 wd_657 wd_658 (am_dt kX10_readsSide 47 rfl) (by decide) rfl rfl (Nat.le_of_ble_eq_true rfl) (Nat.le_of_ble_eq_true rfl) f19.1 ?_
        refine EvM.mono k (fun r22 h21 k => ?_)
        obtain ⟨v23, rfl, k⟩ := k
        show Ev w _ _ _ 85 _ [.int v23] _ _
        refine Ev.if_ne (tgt := 90) (am_dt kX10_readsSide 48 rfl) (by decide) (fun c => ?_) (fun c => ?_)
        · have k := k.2 c
          refine Ev.aload_n 0 (am_dt kX10_readsSide 51 rfl) rfl rfl ?_
          obtain ⟨f24, k⟩ := k
          refine Ev.getRe (ci := 10) (k := 10) (r := a0 + 2) (am_dt kX10_readsSide 52 rfl) (by decide) (by decide) rfl wd_543 f24.1 (am_L.r f24 1 rfl) (by omega) ?_
          refine Ev.bipush (v := 14) (am_dt kX10_readsSide 53 rfl) (by decide) ?_
          refine Ev.aload_n 0 (am_dt kX10_readsSide 54 rfl) rfl rfl ?_
          refine Ev.getI (ci := 10) (k := 35) (am_dt kX10_readsSide 55 rfl) (by decide) (by decide) rfl wd_654 f24.1 ?_
          obtain ⟨f25, k⟩ := k
          refine Ev.iast' (am_dt kX10_readsSide 56 rfl) (am_L.s f24 1 rfl) f25 (fun h26 eh26 => ?_)
          have k := k h26 eh26
          have f24 := am_LsI eh26 f24
          refine Ev.aload_n 0 (am_dt kX10_readsSide 57 rfl) rfl rfl ?_
          refine Ev.callV (ci := 10) (v := mX10_ends) (As := []) (st := []) okX10_ends wd_659 wd_660 wd_661 (am_dt kX10_readsSide 58 rfl) (by decide) rfl rfl (Nat.le_of_ble_eq_true rfl) (Nat.le_of_ble_eq_true rfl) f24.1 ?_
          refine EvM.mono k (fun r28 h27 k => ?_)
          obtain ⟨v29, rfl, k⟩ := k
          show Ev w _ _ _ 105 _ [.int v29] _ _
          exact Ev.iret .boolean (am_dt kX10_readsSide 59 rfl) rfl k.1 k.2
        · have k := k.1 c
          refine Ev.iconst (v := 0) (am_dt kX10_readsSide 49 rfl) (by decide) ?_
          exact Ev.iret .boolean (am_dt kX10_readsSide 50 rfl) rfl rfl k
    · have k := k.1 c
      refine Ev.iconst (v := 0) (am_dt kX10_readsSide 25 rfl) (by decide) ?_
      exact Ev.iret .boolean (am_dt kX10_readsSide 26 rfl) rfl rfl k
  · have k := k.1 c
    refine Ev.aload_n 0 (am_dt kX10_readsSide 8 rfl) rfl rfl ?_
    refine Ev.iconst (v := 3) (am_dt kX10_readsSide 9 rfl) (by decide) ?_
    refine Ev.callV (ci := 10) (v := mX10_fails) (As := [.int 3]) (st := []) okX10_fails wd_615 wd_616 wd_617 (am_dt kX10_readsSide 10 rfl) (by decide) rfl rfl (Nat.le_of_ble_eq_true rfl) (Nat.le_of_ble_eq_true rfl) f1.1 ?_
    refine EvM.mono k (fun r3 h2 k => ?_)
    obtain ⟨v4, rfl, k⟩ := k
    show Ev w _ _ _ 17 _ [.int v4] _ _
    exact Ev.iret .boolean (am_dt kX10_readsSide 11 rfl) rfl k.1 k.2
set_option maxRecDepth 20000 in
set_option maxHeartbeats 2000000 in
theorem bX10_readsLaw_0 {w : am_W} {d : Nat} {h : am_H} {Q : Option Value → am_H → Prop} {a0 : Nat}  (k : (am_L 10 a0 h) ∧ ((vp_in 16 (hN h (a0 + 2))) ∧ (((hI h (a0 + 2) (Int32.toNatClampNeg 16)) = 4 → (EvM w mX10_fails d [.ref a0, .int 5] h (fun r4 h3 => ∃ v5 : Int32, r4 = some (.int v5) ∧ (narrow .boolean (.int v5) = .int v5 ∧ (Q (some (.int v5)) h3))))) ∧ (¬ (hI h (a0 + 2) (Int32.toNatClampNeg 16)) = 4 → (EvM w mX10_nextToken d [.ref a0] h (fun r8 h7 => r8 = none ∧ ((am_L 10 a0 h7) ∧ ((vp_in (4 + (hI h (a0 + 2) (Int32.toNatClampNeg 16))) (hN h7 (a0 + 3))) ∧ (∀ h11 : am_H, h11 = sI h7 (a0 + 3) (Int32.toNatClampNeg (4 + (hI h (a0 + 2) (Int32.toNatClampNeg 16)))) (hI h7 a0 21) → (EvM w mX10_reads d [.ref a0] h11 (fun r13 h12 => ∃ v14 : Int32, r13 = some (.int v14) ∧ ((v14 = 0 → (Q (some (.int 0)) h12)) ∧ (¬ v14 = 0 → ((am_L 10 a0 h12) ∧ ((vp_in (4 + (hI h (a0 + 2) (Int32.toNatClampNeg 16))) (hN h12 (a0 + 4))) ∧ (∀ h17 : am_H, h17 = sI h12 (a0 + 4) (Int32.toNatClampNeg (4 + (hI h (a0 + 2) (Int32.toNatClampNeg 16)))) (hI h12 a0 21) → ((vp_in 16 (hN h17 (a0 + 2))) ∧ ((vp_in 16 (hN h17 (a0 + 2))) ∧ (∀ h20 : am_H, h20 = sI h17 (a0 + 2) (Int32.toNatClampNeg 16) ((hI h17 (a0 + 2) (Int32.toNatClampNeg 16)) + 1) → (Q (some (.int 1)) h20)))))))))))))))))))) : EvM w mX10_readsLaw (d + 1) [.ref a0] h Q := by
  show Ev w (am_Z w) mX10_readsLaw (d + 1) 0 [(0, .ref a0)] [] h Q
  refine Ev.aload_n 0 (am_dt kX10_readsLaw 0 rfl) rfl rfl ?_
  obtain ⟨f1, k⟩ := k
  refine Ev.getRe (ci := 10) (k := 10) (r := a0 + 2) (am_dt kX10_readsLaw 1 rfl) (by decide) (by decide) rfl wd_543 f1.1 (am_L.r f1 1 rfl) (by omega) ?_
  refine Ev.bipush (v := 16) (am_dt kX10_readsLaw 2 rfl) (by decide) ?_
  obtain ⟨f2, k⟩ := k
  refine Ev.iald (am_dt kX10_readsLaw 3 rfl) (am_L.s f1 1 rfl) f2 ?_
  refine Ev.istore_n (lv' := [(1, .int (hI h (a0 + 2) (Int32.toNatClampNeg 16))), (0, .ref a0)]) (am_dt kX10_readsLaw 4 rfl) rfl (by decide) rfl ?_
  refine Ev.iload_n 0 (am_dt kX10_readsLaw 5 rfl) rfl rfl ?_
  refine Ev.iconst (v := 4) (am_dt kX10_readsLaw 6 rfl) (by decide) ?_
  refine Ev.icmp_ne (tgt := 19) (am_dt kX10_readsLaw 7 rfl) (by decide) (fun c => ?_) (fun c => ?_)
  · have k := k.2 c
    refine Ev.aload_n 1 (am_dt kX10_readsLaw 12 rfl) rfl rfl ?_
    refine Ev.callV (ci := 10) (v := mX10_nextToken) (As := []) (st := []) okX10_nextToken wd_623 wd_624 wd_625 (am_dt kX10_readsLaw 13 rfl) (by decide) rfl rfl (Nat.le_of_ble_eq_true rfl) (Nat.le_of_ble_eq_true rfl) f1.1 ?_
    refine EvM.mono k (fun r8 h7 k => ?_)
    obtain ⟨rfl, k⟩ := k
    show Ev w _ _ _ 23 _ [] _ _
    refine Ev.aload_n 1 (am_dt kX10_readsLaw 14 rfl) rfl rfl ?_
    obtain ⟨f9, k⟩ := k
    refine Ev.getRe (ci := 10) (k := 11) (r := a0 + 3) (am_dt kX10_readsLaw 15 rfl) (by decide) (by decide) rfl wd_544 f9.1 (am_L.r f9 2 rfl) (by omega) ?_
    refine Ev.iconst (v := 4) (am_dt kX10_readsLaw 16 rfl) (by decide) ?_
    refine Ev.iload_n 0 (am_dt kX10_readsLaw 17 rfl) rfl rfl ?_
    refine Ev.iadd (am_dt kX10_readsLaw 18 rfl) ?_
    refine Ev.aload_n 1 (am_dt kX10_readsLaw 19 rfl) rfl rfl ?_
    refine Ev.getI (ci := 10) (k := 21) (am_dt kX10_readsLaw 20 rfl) (by decide) (by decide) rfl wd_598 f9.1 ?_
    obtain ⟨f10, k⟩ := k
    refine Ev.iast' (am_dt kX10_readsLaw 21 rfl) (am_L.s f9 2 rfl) f10 (fun h11 eh11 => ?_)
    have k := k h11 eh11
    have f9 := am_LsI eh11 f9
    refine Ev.aload_n 1 (am_dt kX10_readsLaw 22 rfl) rfl rfl ?_
    refine Ev.callV (ci := 10) (v := mX10_reads) (As := []) (st := []) okX10_reads wd_666 wd_667 wd_668 (am_dt kX10_readsLaw 23 rfl) (by decide) rfl rfl (Nat.le_of_ble_eq_true rfl) (Nat.le_of_ble_eq_true rfl) f9.1 ?_
    refine EvM.mono k (fun r13 h12 k => ?_)
    obtain ⟨v14, rfl, k⟩ := k
    show Ev w _ _ _ 39 _ [.int v14] _ _
    refine Ev.if_ne (tgt := 44) (am_dt kX10_readsLaw 24 rfl) (by decide) (fun c => ?_) (fun c => ?_)
    · have k := k.2 c
      refine Ev.aload_n 1 (am_dt kX10_readsLaw 27 rfl) rfl rfl ?_
      obtain ⟨f15, k⟩ := k
      refine Ev.getRe (ci := 10) (k := 12) (r := a0 + 4) (am_dt kX10_readsLaw 28 rfl) (by decide) (by decide) rfl wd_545 f15.1 (am_L.r f15 3 rfl) (by omega) ?_
      refine Ev.iconst (v := 4) (am_dt kX10_readsLaw 29 rfl) (by decide) ?_
      refine Ev.iload_n 0 (am_dt kX10_readsLaw 30 rfl) rfl rfl ?_
      refine Ev.iadd (am_dt kX10_readsLaw 31 rfl) ?_
      refine Ev.aload_n 1 (am_dt kX10_readsLaw 32 rfl) rfl rfl ?_
      refine Ev.getI (ci := 10) (k := 21) (am_dt kX10_readsLaw 33 rfl) (by decide) (by decide) rfl wd_598 f15.1 ?_
      obtain ⟨f16, k⟩ := k
      refine Ev.iast' (am_dt kX10_readsLaw 34 rfl) (am_L.s f15 3 rfl) f16 (fun h17 eh17 => ?_)
      have k := k h17 eh17
      have f15 := am_LsI eh17 f15
      refine Ev.aload_n 1 (am_dt kX10_readsLaw 35 rfl) rfl rfl ?_
      refine Ev.getRe (ci := 10) (k := 10) (r := a0 + 2) (am_dt kX10_readsLaw 36 rfl) (by decide) (by decide) rfl wd_543 f15.1 (am_L.r f15 1 rfl) (by omega) ?_
      refine Ev.bipush (v := 16) (am_dt kX10_readsLaw 37 rfl) (by decide) ?_
      refine Ev.dup2 (am_dt kX10_readsLaw 38 rfl) rfl rfl ?_
      obtain ⟨f18, k⟩ := k
      refine Ev.iald (am_dt kX10_readsLaw 39 rfl) (am_L.s f15 1 rfl) f18 ?_
      refine Ev.iconst (v := 1) (am_dt kX10_readsLaw 40 rfl) (by decide) ?_
      refine Ev.iadd (am_dt kX10_readsLaw 41 rfl) ?_
      obtain ⟨f19, k⟩ := k
      refine Ev.iast' (am_dt kX10_readsLaw 42 rfl) (am_L.s f15 1 rfl) f19 (fun h20 eh20 => ?_)
      have k := k h20 eh20
      have f15 := am_LsI eh20 f15
      refine Ev.iconst (v := 1) (am_dt kX10_readsLaw 43 rfl) (by decide) ?_
      exact Ev.iret .boolean (am_dt kX10_readsLaw 44 rfl) rfl rfl k
    · have k := k.1 c
      refine Ev.iconst (v := 0) (am_dt kX10_readsLaw 25 rfl) (by decide) ?_
      exact Ev.iret .boolean (am_dt kX10_readsLaw 26 rfl) rfl rfl k
  · have k := k.1 c
    refine Ev.aload_n 1 (am_dt kX10_readsLaw 8 rfl) rfl rfl ?_
    refine Ev.iconst (v := 5) (am_dt kX10_readsLaw 9 rfl) (by decide) ?_
    refine Ev.callV (ci := 10) (v := mX10_fails) (As := [.int 5]) (st := []) okX10_fails wd_615 wd_616 wd_617 (am_dt kX10_readsLaw 10 rfl) (by decide) rfl rfl (Nat.le_of_ble_eq_true rfl) (Nat.le_of_ble_eq_true rfl) f1.1 ?_
    refine EvM.mono k (fun r4 h3 k => ?_)
    obtain ⟨v5, rfl, k⟩ := k
    show Ev w _ _ _ 18 _ [.int v5] _ _
    exact Ev.iret .boolean (am_dt kX10_readsLaw 11 rfl) rfl k.1 k.2
set_option maxRecDepth 20000 in
set_option maxHeartbeats 2000000 in
theorem bX10_kindAt_0 {w : am_W} {d : Nat} {h : am_H} {Q : Option Value → am_H → Prop} {a0 : Nat}  (k : (am_L 10 a0 h) ∧ (EvM w mX10_isWord d [.ref a0, .long 8740238] h (fun r3 h2 => ∃ v4 : Int32, r3 = some (.int v4) ∧ ((v4 = 0 → ((am_L 10 a0 h2) ∧ (EvM w mX10_isWord d [.ref a0, .long 3328] h2 (fun r7 h6 => ∃ v8 : Int32, r7 = some (.int v8) ∧ ((v8 = 0 → ((am_L 10 a0 h6) ∧ (EvM w mX10_isWord d [.ref a0, .long 1758676] h6 (fun r11 h10 => ∃ v12 : Int32, r11 = some (.int v12) ∧ ((v12 = 0 → ((am_L 10 a0 h10) ∧ (EvM w mX10_isWord d [.ref a0, .long 60284] h10 (fun r15 h14 => ∃ v16 : Int32, r15 = some (.int v16) ∧ ((v16 = 0 → ((am_L 10 a0 h14) ∧ (EvM w mX10_isWord d [.ref a0, .long 298503054] h14 (fun r19 h18 => ∃ v20 : Int32, r19 = some (.int v20) ∧ ((v20 = 0 → ((am_L 10 a0 h18) ∧ (EvM w mX10_isWord d [.ref a0, .long 1285333587] h18 (fun r23 h22 => ∃ v24 : Int32, r23 = some (.int v24) ∧ ((v24 = 0 → (Q (some (.int ((-1)))) h22)) ∧ (¬ v24 = 0 → (Q (some (.int 5)) h22))))))) ∧ (¬ v20 = 0 → (Q (some (.int 4)) h18))))))) ∧ (¬ v16 = 0 → (Q (some (.int 3)) h14))))))) ∧ (¬ v12 = 0 → (Q (some (.int 2)) h10))))))) ∧ (¬ v8 = 0 → (Q (some (.int 1)) h6))))))) ∧ (¬ v4 = 0 → (Q (some (.int 0)) h2)))))) : EvM w mX10_kindAt (d + 1) [.ref a0] h Q := by
  show Ev w (am_Z w) mX10_kindAt (d + 1) 0 [(0, .ref a0)] [] h Q
  refine Ev.aload_n 0 (am_dt kX10_kindAt 0 rfl) rfl rfl ?_
  refine Ev.ldc2 (v := 8740238) (am_dt kX10_kindAt 1 rfl) wd_646 ?_
  obtain ⟨f1, k⟩ := k
  refine Ev.callV (ci := 10) (v := mX10_isWord) (As := [.long 8740238]) (st := []) okX10_isWord wd_612 wd_613 wd_614 (am_dt kX10_kindAt 2 rfl) (by decide) rfl rfl (Nat.le_of_ble_eq_true rfl) (Nat.le_of_ble_eq_true rfl) f1.1 ?_
  refine EvM.mono k (fun r3 h2 k => ?_)
  obtain ⟨v4, rfl, k⟩ := k
  show Ev w _ _ _ 7 _ [.int v4] _ _
  refine Ev.if_eq (tgt := 14) (am_dt kX10_kindAt 3 rfl) (by decide) (fun c => ?_) (fun c => ?_)
  · have k := k.1 c
    refine Ev.aload_n 0 (am_dt kX10_kindAt 6 rfl) rfl rfl ?_
    refine Ev.ldc2 (v := 3328) (am_dt kX10_kindAt 7 rfl) wd_647 ?_
    obtain ⟨f5, k⟩ := k
    refine Ev.callV (ci := 10) (v := mX10_isWord) (As := [.long 3328]) (st := []) okX10_isWord wd_612 wd_613 wd_614 (am_dt kX10_kindAt 8 rfl) (by decide) rfl rfl (Nat.le_of_ble_eq_true rfl) (Nat.le_of_ble_eq_true rfl) f5.1 ?_
    refine EvM.mono k (fun r7 h6 k => ?_)
    obtain ⟨v8, rfl, k⟩ := k
    show Ev w _ _ _ 21 _ [.int v8] _ _
    refine Ev.if_eq (tgt := 28) (am_dt kX10_kindAt 9 rfl) (by decide) (fun c => ?_) (fun c => ?_)
    · have k := k.1 c
      refine Ev.aload_n 0 (am_dt kX10_kindAt 12 rfl) rfl rfl ?_
      refine Ev.ldc2 (v := 1758676) (am_dt kX10_kindAt 13 rfl) wd_648 ?_
      obtain ⟨f9, k⟩ := k
      refine Ev.callV (ci := 10) (v := mX10_isWord) (As := [.long 1758676]) (st := []) okX10_isWord wd_612 wd_613 wd_614 (am_dt kX10_kindAt 14 rfl) (by decide) rfl rfl (Nat.le_of_ble_eq_true rfl) (Nat.le_of_ble_eq_true rfl) f9.1 ?_
      refine EvM.mono k (fun r11 h10 k => ?_)
      obtain ⟨v12, rfl, k⟩ := k
      show Ev w _ _ _ 35 _ [.int v12] _ _
      refine Ev.if_eq (tgt := 42) (am_dt kX10_kindAt 15 rfl) (by decide) (fun c => ?_) (fun c => ?_)
      · have k := k.1 c
        refine Ev.aload_n 0 (am_dt kX10_kindAt 18 rfl) rfl rfl ?_
        refine Ev.ldc2 (v := 60284) (am_dt kX10_kindAt 19 rfl) wd_649 ?_
        obtain ⟨f13, k⟩ := k
        refine Ev.callV (ci := 10) (v := mX10_isWord) (As := [.long 60284]) (st := []) okX10_isWord wd_612 wd_613 wd_614 (am_dt kX10_kindAt 20 rfl) (by decide) rfl rfl (Nat.le_of_ble_eq_true rfl) (Nat.le_of_ble_eq_true rfl) f13.1 ?_
        refine EvM.mono k (fun r15 h14 k => ?_)
        obtain ⟨v16, rfl, k⟩ := k
        show Ev w _ _ _ 49 _ [.int v16] _ _
        refine Ev.if_eq (tgt := 56) (am_dt kX10_kindAt 21 rfl) (by decide) (fun c => ?_) (fun c => ?_)
        · have k := k.1 c
          refine Ev.aload_n 0 (am_dt kX10_kindAt 24 rfl) rfl rfl ?_
          refine Ev.ldc2 (v := 298503054) (am_dt kX10_kindAt 25 rfl) wd_650 ?_
          obtain ⟨f17, k⟩ := k
          refine Ev.callV (ci := 10) (v := mX10_isWord) (As := [.long 298503054]) (st := []) okX10_isWord wd_612 wd_613 wd_614 (am_dt kX10_kindAt 26 rfl) (by decide) rfl rfl (Nat.le_of_ble_eq_true rfl) (Nat.le_of_ble_eq_true rfl) f17.1 ?_
          refine EvM.mono k (fun r19 h18 k => ?_)
          obtain ⟨v20, rfl, k⟩ := k
          show Ev w _ _ _ 63 _ [.int v20] _ _
          refine Ev.if_eq (tgt := 70) (am_dt kX10_kindAt 27 rfl) (by decide) (fun c => ?_) (fun c => ?_)
          · have k := k.1 c
            refine Ev.aload_n 0 (am_dt kX10_kindAt 30 rfl) rfl rfl ?_
            refine Ev.ldc2 (v := 1285333587) (am_dt kX10_kindAt 31 rfl) wd_651 ?_
            obtain ⟨f21, k⟩ := k
            refine Ev.callV (ci := 10) (v := mX10_isWord) (As := [.long 1285333587]) (st := []) okX10_isWord wd_612 wd_613 wd_614 (am_dt kX10_kindAt 32 rfl) (by decide) rfl rfl (Nat.le_of_ble_eq_true rfl) (Nat.le_of_ble_eq_true rfl) f21.1 ?_
            refine EvM.mono k (fun r23 h22 k => ?_)
            obtain ⟨v24, rfl, k⟩ := k
            show Ev w _ _ _ 77 _ [.int v24] _ _
            refine Ev.if_eq (tgt := 84) (am_dt kX10_kindAt 33 rfl) (by decide) (fun c => ?_) (fun c => ?_)
            · have k := k.1 c
              refine Ev.iconst (v := (-1)) (am_dt kX10_kindAt 36 rfl) (by decide) ?_
              exact Ev.iret .int (am_dt kX10_kindAt 37 rfl) rfl rfl k
            · have k := k.2 c
              refine Ev.iconst (v := 5) (am_dt kX10_kindAt 34 rfl) (by decide) ?_
              refine Ev.goto (tgt := 85) (am_dt kX10_kindAt 35 rfl) (by decide) ?_
              exact Ev.iret .int (am_dt kX10_kindAt 37 rfl) rfl rfl k
          · have k := k.2 c
            refine Ev.iconst (v := 4) (am_dt kX10_kindAt 28 rfl) (by decide) ?_
            refine Ev.goto (tgt := 85) (am_dt kX10_kindAt 29 rfl) (by decide) ?_
            exact Ev.iret .int (am_dt kX10_kindAt 37 rfl) rfl rfl k
        · have k := k.2 c
          refine Ev.iconst (v := 3) (am_dt kX10_kindAt 22 rfl) (by decide) ?_
          refine Ev.goto (tgt := 85) (am_dt kX10_kindAt 23 rfl) (by decide) ?_
          exact Ev.iret .int (am_dt kX10_kindAt 37 rfl) rfl rfl k
      · have k := k.2 c
        refine Ev.iconst (v := 2) (am_dt kX10_kindAt 16 rfl) (by decide) ?_
        refine Ev.goto (tgt := 85) (am_dt kX10_kindAt 17 rfl) (by decide) ?_
        exact Ev.iret .int (am_dt kX10_kindAt 37 rfl) rfl rfl k
    · have k := k.2 c
      refine Ev.iconst (v := 1) (am_dt kX10_kindAt 10 rfl) (by decide) ?_
      refine Ev.goto (tgt := 85) (am_dt kX10_kindAt 11 rfl) (by decide) ?_
      exact Ev.iret .int (am_dt kX10_kindAt 37 rfl) rfl rfl k
  · have k := k.2 c
    refine Ev.iconst (v := 0) (am_dt kX10_kindAt 4 rfl) (by decide) ?_
    refine Ev.goto (tgt := 85) (am_dt kX10_kindAt 5 rfl) (by decide) ?_
    exact Ev.iret .int (am_dt kX10_kindAt 37 rfl) rfl rfl k
