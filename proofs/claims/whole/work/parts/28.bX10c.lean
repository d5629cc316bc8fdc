set_option maxRecDepth 20000 in
set_option maxHeartbeats 2000000 in
theorem bX10_choosers_0 {w : am_W} {d : Nat} {h : am_H} {Q : Option Value → am_H → Prop} {a0 : Nat} {x1 : Int32}  (k : Ev w (am_Z w) mX10_choosers d 4 [(0, .ref a0), (1, .int x1), (2, .int 0), (3, .int 0)] [] h Q) : EvM w mX10_choosers d [.ref a0, .int x1] h Q := by
  show Ev w (am_Z w) mX10_choosers d 0 [(0, .ref a0), (1, .int x1)] [] h Q
  refine Ev.iconst (v := 0) (am_dt kX10_choosers 0 rfl) (by decide) ?_
  refine Ev.istore_n (lv' := [(2, .int 0), (0, .ref a0), (1, .int x1)]) (am_dt kX10_choosers 1 rfl) rfl (by decide) rfl ?_
  refine Ev.iconst (v := 0) (am_dt kX10_choosers 2 rfl) (by decide) ?_
  refine Ev.istore_n (lv' := [(3, .int 0), (2, .int 0), (0, .ref a0), (1, .int x1)]) (am_dt kX10_choosers 3 rfl) rfl (by decide) rfl ?_
  exact Ev.sub [2, 3, 1, 0] rfl k
set_option maxRecDepth 20000 in
set_option maxHeartbeats 2000000 in
theorem bX10_choosers_4 {w : am_W} {d : Nat} {h : am_H} {Q : Option Value → am_H → Prop} {a0 : Nat} {x1 : Int32} {x2 : Int32} {x3 : Int32}  (k : (am_L 10 a0 h) ∧ ((vp_in ((10 * x1) + 7) (hN h (a0 + 2))) ∧ (((hI h (a0 + 2) (Int32.toNatClampNeg ((10 * x1) + 7))) ≤ x3 → (Q (some (.int x2)) h)) ∧ (¬ (hI h (a0 + 2) (Int32.toNatClampNeg ((10 * x1) + 7))) ≤ x3 → ((vp_in ((16 * x1) + x3) (hN h (a0 + 11))) ∧ (((hI h (a0 + 11) (Int32.toNatClampNeg ((16 * x1) + x3))) = 5 → (Ev w (am_Z w) mX10_choosers d 4 [(0, .ref a0), (1, .int x1), (2, .int (x2 + 1)), (3, .int (x3 + 1))] [] h Q)) ∧ (¬ (hI h (a0 + 11) (Int32.toNatClampNeg ((16 * x1) + x3))) = 5 → (Ev w (am_Z w) mX10_choosers d 4 [(0, .ref a0), (1, .int x1), (2, .int (x2 + 0)), (3, .int (x3 + 1))] [] h Q)))))))) : Ev w (am_Z w) mX10_choosers d 4 [(0, .ref a0), (1, .int x1), (2, .int x2), (3, .int x3)] [] h Q := by
  refine Ev.iload_n 3 (am_dt kX10_choosers 4 rfl) rfl rfl ?_
  refine Ev.aload_n 0 (am_dt kX10_choosers 5 rfl) rfl rfl ?_
  obtain ⟨f1, k⟩ := k
  refine Ev.getRe (ci := 10) (k := 10) (r := a0 + 2) (am_dt kX10_choosers 6 rfl) (by decide) (by decide) rfl wd_543 f1.1 (am_L.r f1 1 rfl) (by omega) ?_
  refine Ev.bipush (v := 10) (am_dt kX10_choosers 7 rfl) (by decide) ?_
  refine Ev.iload_n 1 (am_dt kX10_choosers 8 rfl) rfl rfl ?_
  refine Ev.imul (am_dt kX10_choosers 9 rfl) ?_
  refine Ev.bipush (v := 7) (am_dt kX10_choosers 10 rfl) (by decide) ?_
  refine Ev.iadd (am_dt kX10_choosers 11 rfl) ?_
  obtain ⟨f2, k⟩ := k
  refine Ev.iald (am_dt kX10_choosers 12 rfl) (am_L.s f1 1 rfl) f2 ?_
  refine Ev.icmp_ge (tgt := 49) (am_dt kX10_choosers 13 rfl) (by decide) (fun c => ?_) (fun c => ?_)
  · have k := k.1 c
    refine Ev.iload_n 2 (am_dt kX10_choosers 32 rfl) rfl rfl ?_
    exact Ev.iret .int (am_dt kX10_choosers 33 rfl) rfl rfl k
  · have k := k.2 c
    refine Ev.iload_n 2 (am_dt kX10_choosers 14 rfl) rfl rfl ?_
    refine Ev.aload_n 0 (am_dt kX10_choosers 15 rfl) rfl rfl ?_
    refine Ev.getRe (ci := 10) (k := 19) (r := a0 + 11) (am_dt kX10_choosers 16 rfl) (by decide) (by decide) rfl wd_552 f1.1 (am_L.r f1 10 rfl) (by omega) ?_
    refine Ev.bipush (v := 16) (am_dt kX10_choosers 17 rfl) (by decide) ?_
    refine Ev.iload_n 1 (am_dt kX10_choosers 18 rfl) rfl rfl ?_
    refine Ev.imul (am_dt kX10_choosers 19 rfl) ?_
    refine Ev.iload_n 3 (am_dt kX10_choosers 20 rfl) rfl rfl ?_
    refine Ev.iadd (am_dt kX10_choosers 21 rfl) ?_
    obtain ⟨f3, k⟩ := k
    refine Ev.iald (am_dt kX10_choosers 22 rfl) (am_L.s f1 10 rfl) f3 ?_
    refine Ev.iconst (v := 5) (am_dt kX10_choosers 23 rfl) (by decide) ?_
    refine Ev.icmp_ne (tgt := 40) (am_dt kX10_choosers 24 rfl) (by decide) (fun c => ?_) (fun c => ?_)
    · have k := k.2 c
      refine Ev.iconst (v := 0) (am_dt kX10_choosers 27 rfl) (by decide) ?_
      refine Ev.iadd (am_dt kX10_choosers 28 rfl) ?_
      refine Ev.istore_n (lv' := [(2, .int (x2 + 0)), (0, .ref a0), (1, .int x1), (3, .int x3)]) (am_dt kX10_choosers 29 rfl) rfl (by decide) rfl ?_
      refine Ev.iinc (v := x3 + 1) (lv' := [(3, .int (x3 + 1)), (2, .int (x2 + 0)), (0, .ref a0), (1, .int x1)]) 3 (am_dt kX10_choosers 30 rfl) rfl rfl (by decide) rfl ?_
      refine Ev.goto (tgt := 4) (am_dt kX10_choosers 31 rfl) (by decide) ?_
      exact Ev.sub [2, 3, 1, 0] rfl k
    · have k := k.1 c
      refine Ev.iconst (v := 1) (am_dt kX10_choosers 25 rfl) (by decide) ?_
      refine Ev.goto (tgt := 41) (am_dt kX10_choosers 26 rfl) (by decide) ?_
      refine Ev.iadd (am_dt kX10_choosers 28 rfl) ?_
      refine Ev.istore_n (lv' := [(2, .int (x2 + 1)), (0, .ref a0), (1, .int x1), (3, .int x3)]) (am_dt kX10_choosers 29 rfl) rfl (by decide) rfl ?_
      refine Ev.iinc (v := x3 + 1) (lv' := [(3, .int (x3 + 1)), (2, .int (x2 + 1)), (0, .ref a0), (1, .int x1)]) 3 (am_dt kX10_choosers 30 rfl) rfl rfl (by decide) rfl ?_
      refine Ev.goto (tgt := 4) (am_dt kX10_choosers 31 rfl) (by decide) ?_
      exact Ev.sub [2, 3, 1, 0] rfl k
set_option maxRecDepth 20000 in
set_option maxHeartbeats 2000000 in
theorem bX10_readsPerson_0 {w : am_W} {d : Nat} {h : am_H} {Q : Option Value → am_H → Prop} {a0 : Nat}  (k : (am_L 10 a0 h) ∧ ((vp_in 17 (hN h (a0 + 2))) ∧ (((hI h (a0 + 2) (Int32.toNatClampNeg 17)) = 16 → (EvM w mX10_fails d [.ref a0, .int 5] h (fun r4 h3 => ∃ v5 : Int32, r4 = some (.int v5) ∧ (narrow .boolean (.int v5) = .int v5 ∧ (Q (some (.int v5)) h3))))) ∧ (¬ (hI h (a0 + 2) (Int32.toNatClampNeg 17)) = 16 → (EvM w mX10_nextToken d [.ref a0] h (fun r8 h7 => r8 = none ∧ ((am_L 10 a0 h7) ∧ (EvM w mX10_isKept d [.ref a0] h7 (fun r11 h10 => ∃ v12 : Int32, r11 = some (.int v12) ∧ ((v12 = 0 → (Ev w (am_Z w) mX10_readsPerson (d + 1) 39 [(0, .ref a0), (1, .int (hI h (a0 + 2) (Int32.toNatClampNeg 17))), (2, .int 0)] [] h10 Q)) ∧ (¬ v12 = 0 → ((am_L 10 a0 h10) ∧ (EvM w mX10_fails d [.ref a0, .int 1] h10 (fun r15 h14 => ∃ v16 : Int32, r15 = some (.int v16) ∧ (narrow .boolean (.int v16) = .int v16 ∧ (Q (some (.int v16)) h14)))))))))))))))) : EvM w mX10_readsPerson (d + 1) [.ref a0] h Q := by
  show Ev w (am_Z w) mX10_readsPerson (d + 1) 0 [(0, .ref a0)] [] h Q
  refine Ev.aload_n 0 (am_dt kX10_readsPerson 0 rfl) rfl rfl ?_
  obtain ⟨f1, k⟩ := k
  refine Ev.getRe (ci := 10) (k := 10) (r := a0 + 2) (am_dt kX10_readsPerson 1 rfl) (by decide) (by decide) rfl wd_543 f1.1 (am_L.r f1 1 rfl) (by omega) ?_
  refine Ev.bipush (v := 17) (am_dt kX10_readsPerson 2 rfl) (by decide) ?_
  obtain ⟨f2, k⟩ := k
  refine Ev.iald (am_dt kX10_readsPerson 3 rfl) (am_L.s f1 1 rfl) f2 ?_
  refine Ev.istore_n (lv' := [(1, .int (hI h (a0 + 2) (Int32.toNatClampNeg 17))), (0, .ref a0)]) (am_dt kX10_readsPerson 4 rfl) rfl (by decide) rfl ?_
  refine Ev.iload_n 0 (am_dt kX10_readsPerson 5 rfl) rfl rfl ?_
  refine Ev.bipush (v := 16) (am_dt kX10_readsPerson 6 rfl) (by decide) ?_
  refine Ev.icmp_ne (tgt := 20) (am_dt kX10_readsPerson 7 rfl) (by decide) (fun c => ?_) (fun c => ?_)
  · have k := k.2 c
    refine Ev.aload_n 1 (am_dt kX10_readsPerson 12 rfl) rfl rfl ?_
    refine Ev.callV (ci := 10) (v := mX10_nextToken) (As := []) (st := []) okX10_nextToken wd_623 wd_624 wd_625 (am_dt kX10_readsPerson 13 rfl) (by decide) rfl rfl (Nat.le_of_ble_eq_true rfl) (Nat.le_of_ble_eq_true rfl) f1.1 ?_
    refine EvM.mono k (fun r8 h7 k => ?_)
    obtain ⟨rfl, k⟩ := k
    show Ev w _ _ _ 24 _ [] _ _
    refine Ev.aload_n 1 (am_dt kX10_readsPerson 14 rfl) rfl rfl ?_
    obtain ⟨f9, k⟩ := k
    refine Ev.callV (ci := 10) (v := mX10_isKept) (As := []) (st := []) okX10_isKept wd_669 wd_670 wd_671 (am_dt kX10_readsPerson 15 rfl) (by decide) rfl rfl (Nat.le_of_ble_eq_true rfl) (Nat.le_of_ble_eq_true rfl) f9.1 ?_
    refine EvM.mono k (fun r11 h10 k => ?_)
    obtain ⟨v12, rfl, k⟩ := k
    show Ev w _ _ _ 28 _ [.int v12] _ _
    refine Ev.if_eq (tgt := 37) (am_dt kX10_readsPerson 16 rfl) (by decide) (fun c => ?_) (fun c => ?_)
    · have k := k.1 c
      refine Ev.iconst (v := 0) (am_dt kX10_readsPerson 21 rfl) (by decide) ?_
      refine Ev.istore_n (lv' := [(2, .int 0), (1, .int (hI h (a0 + 2) (Int32.toNatClampNeg 17))), (0, .ref a0)]) (am_dt kX10_readsPerson 22 rfl) rfl (by decide) rfl ?_
      exact Ev.sub [2, 1, 0] rfl k
    · have k := k.2 c
      refine Ev.aload_n 1 (am_dt kX10_readsPerson 17 rfl) rfl rfl ?_
      refine Ev.iconst (v := 1) (am_dt kX10_readsPerson 18 rfl) (by decide) ?_
      obtain ⟨f13, k⟩ := k
      refine Ev.callV (ci := 10) (v := mX10_fails) (As := [.int 1]) (st := []) okX10_fails wd_615 wd_616 wd_617 (am_dt kX10_readsPerson 19 rfl) (by decide) rfl rfl (Nat.le_of_ble_eq_true rfl) (Nat.le_of_ble_eq_true rfl) f13.1 ?_
      refine EvM.mono k (fun r15 h14 k => ?_)
      obtain ⟨v16, rfl, k⟩ := k
      show Ev w _ _ _ 36 _ [.int v16] _ _
      exact Ev.iret .boolean (am_dt kX10_readsPerson 20 rfl) rfl k.1 k.2
  · have k := k.1 c
    refine Ev.aload_n 1 (am_dt kX10_readsPerson 8 rfl) rfl rfl ?_
    refine Ev.iconst (v := 5) (am_dt kX10_readsPerson 9 rfl) (by decide) ?_
    refine Ev.callV (ci := 10) (v := mX10_fails) (As := [.int 5]) (st := []) okX10_fails wd_615 wd_616 wd_617 (am_dt kX10_readsPerson 10 rfl) (by decide) rfl rfl (Nat.le_of_ble_eq_true rfl) (Nat.le_of_ble_eq_true rfl) f1.1 ?_
    refine EvM.mono k (fun r4 h3 k => ?_)
    obtain ⟨v5, rfl, k⟩ := k
    show Ev w _ _ _ 19 _ [.int v5] _ _
    exact Ev.iret .boolean (am_dt kX10_readsPerson 11 rfl) rfl k.1 k.2
set_option maxRecDepth 20000 in
set_option maxHeartbeats 2000000 in
theorem bX10_readsPerson_39 {w : am_W} {d : Nat} {h : am_H} {Q : Option Value → am_H → Prop} {a0 : Nat} {x1 : Int32} {x2 : Int32}  (k : (x1 ≤ x2 → ((am_L 10 a0 h) ∧ ((vp_in x1 (hN h (a0 + 6))) ∧ (∀ h3 : am_H, h3 = sJ h (a0 + 6) (Int32.toNatClampNeg x1) (hJ h a0 7) → (EvM w mX10_nextToken d [.ref a0] h3 (fun r5 h4 => r5 = none ∧ ((am_L 10 a0 h4) ∧ (EvM w mX10_isWord d [.ref a0, .long 9748424] h4 (fun r8 h7 => ∃ v9 : Int32, r8 = some (.int v9) ∧ ((v9 = 0 → ((am_L 10 a0 h7) ∧ (EvM w mX10_isWord d [.ref a0, .long 240023] h7 (fun r12 h11 => ∃ v13 : Int32, r12 = some (.int v13) ∧ ((v13 = 0 → ((am_L 10 a0 h11) ∧ (EvM w mX10_fails d [.ref a0, .int 1] h11 (fun r16 h15 => ∃ v17 : Int32, r16 = some (.int v17) ∧ (narrow .boolean (.int v17) = .int v17 ∧ (Q (some (.int v17)) h15)))))) ∧ (¬ v13 = 0 → ((am_L 10 a0 h11) ∧ ((v9 = 0 → (Ev w (am_Z w) mX10_readsPerson (d + 1) 129 [(0, .ref a0), (1, .int x1)] [.int 0, .int (16 + x1), .ref (a0 + 7)] h11 Q)) ∧ (¬ v9 = 0 → (Ev w (am_Z w) mX10_readsPerson (d + 1) 129 [(0, .ref a0), (1, .int x1)] [.int 1, .int (16 + x1), .ref (a0 + 7)] h11 Q)))))))))) ∧ (¬ v9 = 0 → ((am_L 10 a0 h7) ∧ ((v9 = 0 → (Ev w (am_Z w) mX10_readsPerson (d + 1) 129 [(0, .ref a0), (1, .int x1)] [.int 0, .int (16 + x1), .ref (a0 + 7)] h7 Q)) ∧ (¬ v9 = 0 → (Ev w (am_Z w) mX10_readsPerson (d + 1) 129 [(0, .ref a0), (1, .int x1)] [.int 1, .int (16 + x1), .ref (a0 + 7)] h7 Q))))))))))))))) ∧ (¬ x1 ≤ x2 → ((am_L 10 a0 h) ∧ ((vp_in x2 (hN h (a0 + 6))) ∧ (((hJ h (a0 + 6) (Int32.toNatClampNeg x2)) = (hJ h a0 7) → (EvM w mX10_fails d [.ref a0, .int 3] h (fun r24 h23 => ∃ v25 : Int32, r24 = some (.int v25) ∧ (narrow .boolean (.int v25) = .int v25 ∧ (Q (some (.int v25)) h23))))) ∧ (¬ (hJ h (a0 + 6) (Int32.toNatClampNeg x2)) = (hJ h a0 7) → (Ev w (am_Z w) mX10_readsPerson (d + 1) 39 [(0, .ref a0), (1, .int x1), (2, .int (x2 + 1))] [] h Q))))))) : Ev w (am_Z w) mX10_readsPerson (d + 1) 39 [(0, .ref a0), (1, .int x1), (2, .int x2)] [] h Q := by
  refine Ev.iload_n 2 (am_dt kX10_readsPerson 23 rfl) rfl rfl ?_
  refine Ev.iload_n 1 (am_dt kX10_readsPerson 24 rfl) rfl rfl ?_
  refine Ev.icmp_ge (tgt := 70) (am_dt kX10_readsPerson 25 rfl) (by decide) (fun c => ?_) (fun c => ?_)
  · have k := k.1 c
    refine Ev.aload_n 0 (am_dt kX10_readsPerson 40 rfl) rfl rfl ?_
    obtain ⟨f1, k⟩ := k
    refine Ev.getRe (ci := 10) (k := 14) (r := a0 + 6) (am_dt kX10_readsPerson 41 rfl) (by decide) (by decide) rfl wd_547 f1.1 (am_L.r f1 5 rfl) (by omega) ?_
    refine Ev.iload_n 1 (am_dt kX10_readsPerson 42 rfl) rfl rfl ?_
    refine Ev.aload_n 0 (am_dt kX10_readsPerson 43 rfl) rfl rfl ?_
    refine Ev.getJ (ci := 10) (k := 7) (am_dt kX10_readsPerson 44 rfl) (by decide) (by decide) rfl wd_589 f1.1 ?_
    obtain ⟨f2, k⟩ := k
    refine Ev.last' (am_dt kX10_readsPerson 45 rfl) (am_L.s f1 5 rfl) f2 (fun h3 eh3 => ?_)
    have k := k h3 eh3
    have f1 := am_LsJ eh3 f1
    refine Ev.aload_n 0 (am_dt kX10_readsPerson 46 rfl) rfl rfl ?_
    refine Ev.callV (ci := 10) (v := mX10_nextToken) (As := []) (st := []) okX10_nextToken wd_623 wd_624 wd_625 (am_dt kX10_readsPerson 47 rfl) (by decide) rfl rfl (Nat.le_of_ble_eq_true rfl) (Nat.le_of_ble_eq_true rfl) f1.1 ?_
    refine EvM.mono k (fun r5 h4 k => ?_)
    obtain ⟨rfl, k⟩ := k
    show Ev w _ _ _ 84 _ [] _ _
    refine Ev.aload_n 0 (am_dt kX10_readsPerson 48 rfl) rfl rfl ?_
    refine Ev.ldc2 (v := 9748424) (am_dt kX10_readsPerson 49 rfl) wd_600 ?_
    obtain ⟨f6, k⟩ := k
    refine Ev.callV (ci := 10) (v := mX10_isWord) (As := [.long 9748424]) (st := []) okX10_isWord wd_612 wd_613 wd_614 (am_dt kX10_readsPerson 50 rfl) (by decide) rfl rfl (Nat.le_of_ble_eq_true rfl) (Nat.le_of_ble_eq_true rfl) f6.1 ?_
    refine EvM.mono k (fun r8 h7 k => ?_)
    obtain ⟨v9, rfl, k⟩ := k
    show Ev w _ _ _ 91 _ [.int v9] _ _
    refine Ev.istore_n (lv' := [(2, .int v9), (0, .ref a0), (1, .int x1)]) (am_dt kX10_readsPerson 51 rfl) rfl (by decide) rfl ?_
    refine Ev.iload_n 0 (am_dt kX10_readsPerson 52 rfl) rfl rfl ?_
    refine Ev.if_ne (tgt := 112) (am_dt kX10_readsPerson 53 rfl) (by decide) (fun c => ?_) (fun c => ?_)
    · have k := k.2 c
      refine Ev.aload_n 1 (am_dt kX10_readsPerson 62 rfl) rfl rfl ?_
      obtain ⟨f20, k⟩ := k
      refine Ev.getRe (ci := 10) (k := 15) (r := a0 + 7) (am_dt kX10_readsPerson 63 rfl) (by decide) (by decide) rfl wd_548 f20.1 (am_L.r f20 6 rfl) (by omega) ?_
      refine Ev.bipush (v := 16) (am_dt kX10_readsPerson 64 rfl) (by decide) ?_
      refine Ev.iload_n 2 (am_dt kX10_readsPerson 65 rfl) rfl rfl ?_
      refine Ev.iadd (am_dt kX10_readsPerson 66 rfl) ?_
      refine Ev.iload_n 0 (am_dt kX10_readsPerson 67 rfl) rfl rfl ?_
      refine Ev.if_eq (tgt := 128) (am_dt kX10_readsPerson 68 rfl) (by decide) (fun c => ?_) (fun c => ?_)
      · have k := k.1 c
        refine Ev.iconst (v := 0) (am_dt kX10_readsPerson 71 rfl) (by decide) ?_
        exact Ev.sub [1, 2] rfl k
      · have k := k.2 c
        refine Ev.iconst (v := 1) (am_dt kX10_readsPerson 69 rfl) (by decide) ?_
        refine Ev.goto (tgt := 129) (am_dt kX10_readsPerson 70 rfl) (by decide) ?_
        exact Ev.sub [1, 2] rfl k
    · have k := k.1 c
      refine Ev.aload_n 1 (am_dt kX10_readsPerson 54 rfl) rfl rfl ?_
      refine Ev.ldc2 (v := 240023) (am_dt kX10_readsPerson 55 rfl) wd_599 ?_
      obtain ⟨f10, k⟩ := k
      refine Ev.callV (ci := 10) (v := mX10_isWord) (As := [.long 240023]) (st := []) okX10_isWord wd_612 wd_613 wd_614 (am_dt kX10_readsPerson 56 rfl) (by decide) rfl rfl (Nat.le_of_ble_eq_true rfl) (Nat.le_of_ble_eq_true rfl) f10.1 ?_
      refine EvM.mono k (fun r12 h11 k => ?_)
      obtain ⟨v13, rfl, k⟩ := k
      show Ev w _ _ _ 103 _ [.int v13] _ _
      refine Ev.if_ne (tgt := 112) (am_dt kX10_readsPerson 57 rfl) (by decide) (fun c => ?_) (fun c => ?_)
      · have k := k.2 c
        refine Ev.aload_n 1 (am_dt kX10_readsPerson 62 rfl) rfl rfl ?_
        obtain ⟨f19, k⟩ := k
        refine Ev.getRe (ci := 10) (k := 15) (r := a0 + 7) (am_dt kX10_readsPerson 63 rfl) (by decide) (by decide) rfl wd_548 f19.1 (am_L.r f19 6 rfl) (by omega) ?_
        refine Ev.bipush (v := 16) (am_dt kX10_readsPerson 64 rfl) (by decide) ?_
        refine Ev.iload_n 2 (am_dt kX10_readsPerson 65 rfl) rfl rfl ?_
        refine Ev.iadd (am_dt kX10_readsPerson 66 rfl) ?_
        refine Ev.iload_n 0 (am_dt kX10_readsPerson 67 rfl) rfl rfl ?_
        refine Ev.if_eq (tgt := 128) (am_dt kX10_readsPerson 68 rfl) (by decide) (fun c => ?_) (fun c => ?_)
        · have k := k.1 c
          refine Ev.iconst (v := 0) (am_dt kX10_readsPerson 71 rfl) (by decide) ?_
          exact Ev.sub [1, 2] rfl k
        · have k := k.2 c
          refine Ev.iconst (v := 1) (am_dt kX10_readsPerson 69 rfl) (by decide) ?_
          refine Ev.goto (tgt := 129) (am_dt kX10_readsPerson 70 rfl) (by decide) ?_
          exact Ev.sub [1, 2] rfl k
      · have k := k.1 c
        refine Ev.aload_n 1 (am_dt kX10_readsPerson 58 rfl) rfl rfl ?_
        refine Ev.iconst (v := 1) (am_dt kX10_readsPerson 59 rfl) (by decide) ?_
        obtain ⟨f14, k⟩ := k
        refine Ev.callV (ci := 10) (v := mX10_fails) (As := [.int 1]) (st := []) okX10_fails wd_615 wd_616 wd_617 (am_dt kX10_readsPerson 60 rfl) (by decide) rfl rfl (Nat.le_of_ble_eq_true rfl) (Nat.le_of_ble_eq_true rfl) f14.1 ?_
        refine EvM.mono k (fun r16 h15 k => ?_)
        obtain ⟨v17, rfl, k⟩ := k
        show Ev w _ _ _ 111 _ [.int v17] _ _
        exact Ev.iret .boolean (am_dt kX10_readsPerson 61 rfl) rfl k.1 k.2
  · have k := k.2 c
    refine Ev.aload_n 0 (am_dt kX10_readsPerson 26 rfl) rfl rfl ?_
    obtain ⟨f21, k⟩ := k
    refine Ev.getRe (ci := 10) (k := 14) (r := a0 + 6) (am_dt kX10_readsPerson 27 rfl) (by decide) (by decide) rfl wd_547 f21.1 (am_L.r f21 5 rfl) (by omega) ?_
    refine Ev.iload_n 2 (am_dt kX10_readsPerson 28 rfl) rfl rfl ?_
    obtain ⟨f22, k⟩ := k
    refine Ev.lald (am_dt kX10_readsPerson 29 rfl) (am_L.s f21 5 rfl) f22 ?_
    refine Ev.aload_n 0 (am_dt kX10_readsPerson 30 rfl) rfl rfl ?_
    refine Ev.getJ (ci := 10) (k := 7) (am_dt kX10_readsPerson 31 rfl) (by decide) (by decide) rfl wd_589 f21.1 ?_
    refine Ev.lcmp (am_dt kX10_readsPerson 32 rfl) ?_
    refine Ev.if_ne (tgt := 64) (am_dt kX10_readsPerson 33 rfl) (by decide) (fun c => ?_) (fun c => ?_)
    · have k := k.2 (mt am_lc.mpr c)
      refine Ev.iinc (v := x2 + 1) (lv' := [(2, .int (x2 + 1)), (0, .ref a0), (1, .int x1)]) 2 (am_dt kX10_readsPerson 38 rfl) rfl rfl (by decide) rfl ?_
      refine Ev.goto (tgt := 39) (am_dt kX10_readsPerson 39 rfl) (by decide) ?_
      exact Ev.sub [1, 2, 0] rfl k
    · have k := k.1 (am_lc.mp c)
      refine Ev.aload_n 0 (am_dt kX10_readsPerson 34 rfl) rfl rfl ?_
      refine Ev.iconst (v := 3) (am_dt kX10_readsPerson 35 rfl) (by decide) ?_
      refine Ev.callV (ci := 10) (v := mX10_fails) (As := [.int 3]) (st := []) okX10_fails wd_615 wd_616 wd_617 (am_dt kX10_readsPerson 36 rfl) (by decide) rfl rfl (Nat.le_of_ble_eq_true rfl) (Nat.le_of_ble_eq_true rfl) f21.1 ?_
      refine EvM.mono k (fun r24 h23 k => ?_)
      obtain ⟨v25, rfl, k⟩ := k
      show Ev w _ _ _ 63 _ [.int v25] _ _
      exact Ev.iret .boolean (am_dt kX10_readsPerson 37 rfl) rfl k.1 k.2
set_option maxRecDepth 20000 in
set_option maxHeartbeats 2000000 in
theorem bX10_readsPerson_129 {w : am_W} {d : Nat} {h : am_H} {Q : Option Value → am_H → Prop} {a0 : Nat} {x1 : Int32} {s0 : Int32} {s1 : Int32} {s2 : Nat} (k : (hK h s2 = 12) ∧ ((vp_in s1 (hN h s2)) ∧ (∀ h3 : am_H, h3 = sI h s2 (Int32.toNatClampNeg s1) s0 → ((am_L 10 a0 h3) ∧ (EvM w mX10_nextToken d [.ref a0] h3 (fun r6 h5 => r6 = none ∧ ((am_L 10 a0 h5) ∧ (EvM w mX10_needsWord d [.ref a0, .long 47] h5 (fun r9 h8 => ∃ v10 : Int32, r9 = some (.int v10) ∧ ((v10 = 0 → (Q (some (.int 0)) h8)) ∧ (¬ v10 = 0 → ((am_L 10 a0 h8) ∧ (EvM w mX10_needsNumber d [.ref a0, .int 0, .int 1439] h8 (fun r13 h12 => ∃ v14 : Int32, r13 = some (.int v14) ∧ ((v14 = 0 → (Q (some (.int 0)) h12)) ∧ (¬ v14 = 0 → ((am_L 10 a0 h12) ∧ ((vp_in (16 + x1) (hN h12 (a0 + 8))) ∧ (∀ h17 : am_H, h17 = sI h12 (a0 + 8) (Int32.toNatClampNeg (16 + x1)) (hI h12 a0 35) → (EvM w mX10_needsWord d [.ref a0, .long 332864552] h17 (fun r19 h18 => ∃ v20 : Int32, r19 = some (.int v20) ∧ ((v20 = 0 → (Q (some (.int 0)) h18)) ∧ (¬ v20 = 0 → ((am_L 10 a0 h18) ∧ (EvM w mX10_needsNumber d [.ref a0, .int 0, .int 999] h18 (fun r23 h22 => ∃ v24 : Int32, r23 = some (.int v24) ∧ ((v24 = 0 → (Q (some (.int 0)) h22)) ∧ (¬ v24 = 0 → ((am_L 10 a0 h22) ∧ ((vp_in (16 + x1) (hN h22 (a0 + 9))) ∧ (∀ h27 : am_H, h27 = sI h22 (a0 + 9) (Int32.toNatClampNeg (16 + x1)) (hI h22 a0 35) → (EvM w mX10_needsWord d [.ref a0, .long 70517] h27 (fun r29 h28 => ∃ v30 : Int32, r29 = some (.int v30) ∧ ((v30 = 0 → (Q (some (.int 0)) h28)) ∧ (¬ v30 = 0 → ((am_L 10 a0 h28) ∧ (EvM w mX10_needsNumber d [.ref a0, .int 0, .int 99] h28 (fun r33 h32 => ∃ v34 : Int32, r33 = some (.int v34) ∧ ((v34 = 0 → (Q (some (.int 0)) h32)) ∧ (¬ v34 = 0 → ((am_L 10 a0 h32) ∧ ((vp_in (16 + x1) (hN h32 (a0 + 10))) ∧ (∀ h37 : am_H, h37 = sI h32 (a0 + 10) (Int32.toNatClampNeg (16 + x1)) (hI h32 a0 35) → (EvM w mX10_kindAt d [.ref a0] h37 (fun r39 h38 => ∃ v40 : Int32, r39 = some (.int v40) ∧ ((0 ≤ v40 → ((v40 = 5 → ((am_L 10 a0 h38) ∧ (EvM w mX10_choosers d [.ref a0, .int 1] h38 (fun r43 h42 => ∃ v44 : Int32, r43 = some (.int v44) ∧ ((v44 = 8 → ((am_L 10 a0 h42) ∧ (EvM w mX10_fails d [.ref a0, .int 5] h42 (fun r47 h46 => ∃ v48 : Int32, r47 = some (.int v48) ∧ (narrow .boolean (.int v48) = .int v48 ∧ (Q (some (.int v48)) h46)))))) ∧ (¬ v44 = 8 → (Ev w (am_Z w) mX10_readsPerson (d + 1) 277 [(0, .ref a0), (1, .int x1), (3, .int v40)] [] h42 Q))))))) ∧ (¬ v40 = 5 → (Ev w (am_Z w) mX10_readsPerson (d + 1) 277 [(0, .ref a0), (1, .int x1), (3, .int v40)] [] h38 Q)))) ∧ (¬ 0 ≤ v40 → ((am_L 10 a0 h38) ∧ (EvM w mX10_fails d [.ref a0, .int 1] h38 (fun r52 h51 => ∃ v53 : Int32, r52 = some (.int v53) ∧ (narrow .boolean (.int v53) = .int v53 ∧ (Q (some (.int v53)) h51)))))))))))))))))))))))))))))))))))))))))))))))))))) : Ev w (am_Z w) mX10_readsPerson (d + 1) 129 [(0, .ref a0), (1, .int x1)] [.int s0, .int s1, .ref s2] h Q := by
  obtain ⟨f1, k⟩ := k
  obtain ⟨f2, k⟩ := k
  refine Ev.iast' (am_dt kX10_readsPerson 72 rfl) f1 f2 (fun h3 eh3 => ?_)
  have k := k h3 eh3
  have f1 := kI eh3 f1
  refine Ev.aload_n 0 (am_dt kX10_readsPerson 73 rfl) rfl rfl ?_
  obtain ⟨f4, k⟩ := k
  refine Ev.callV (ci := 10) (v := mX10_nextToken) (As := []) (st := []) okX10_nextToken wd_623 wd_624 wd_625 (am_dt kX10_readsPerson 74 rfl) (by decide) rfl rfl (Nat.le_of_ble_eq_true rfl) (Nat.le_of_ble_eq_true rfl) f4.1 ?_
  refine EvM.mono k (fun r6 h5 k => ?_)
  obtain ⟨rfl, k⟩ := k
  show Ev w _ _ _ 134 _ [] _ _
  refine Ev.aload_n 0 (am_dt kX10_readsPerson 75 rfl) rfl rfl ?_
  refine Ev.ldc2 (v := 47) (am_dt kX10_readsPerson 76 rfl) wd_643 ?_
  obtain ⟨f7, k⟩ := k
  refine Ev.callV (ci := 10) (v := mX10_needsWord) (As := [.long 47]) (st := []) okX10_needsWord wd_662 wd_663 wd_664 (am_dt kX10_readsPerson 77 rfl) (by decide) rfl rfl (Nat.le_of_ble_eq_true rfl) (Nat.le_of_ble_eq_true rfl) f7.1 ?_
  refine EvM.mono k (fun r9 h8 k => ?_)
  obtain ⟨v10, rfl, k⟩ := k
  show Ev w _ _ _ 141 _ [.int v10] _ _
  refine Ev.if_eq (tgt := 155) (am_dt kX10_readsPerson 78 rfl) (by decide) (fun c => ?_) (fun c => ?_)
  · have k := k.1 c
    refine Ev.iconst (v := 0) (am_dt kX10_readsPerson 84 rfl) (by decide) ?_
    exact Ev.iret .boolean (am_dt kX10_readsPerson 85 rfl) rfl rfl k
  · have k := k.2 c
    refine Ev.aload_n 0 (am_dt kX10_readsPerson 79 rfl) rfl rfl ?_
    refine Ev.iconst (v := 0) (am_dt kX10_readsPerson 80 rfl) (by decide) ?_
    refine Ev.sipush (v := 1439) (am_dt kX10_readsPerson 81 rfl) (by decide) ?_
    obtain ⟨f11, k⟩ := k
    refine Ev.callV (ci := 10) (v := mX10_needsNumber) (As := [.int 0, .int 1439]) (st := []) okX10_needsNumber wd_656 wd_657 wd_658 (am_dt kX10_readsPerson 82 rfl) (by decide) rfl rfl (Nat.le_of_ble_eq_true rfl) (Nat.le_of_ble_eq_true rfl) f11.1 ?_
    refine EvM.mono k (fun r13 h12 k => ?_)
    obtain ⟨v14, rfl, k⟩ := k
    show Ev w _ _ _ 152 _ [.int v14] _ _
    refine Ev.if_ne (tgt := 157) (am_dt kX10_readsPerson 83 rfl) (by decide) (fun c => ?_) (fun c => ?_)
    · have k := k.2 c
      refine Ev.aload_n 0 (am_dt kX10_readsPerson 86 rfl) rfl rfl ?_
      obtain ⟨f15, k⟩ := k
      refine Ev.getRe (ci := 10) (k := 16) (r := a0 + 8) (am_dt kX10_readsPerson 87 rfl) (by decide) (by decide) rfl wd_549 f15.1 (am_L.r f15 7 rfl) (by omega) ?_
      refine Ev.bipush (v := 16) (am_dt kX10_readsPerson 88 rfl) (by decide) ?_
      refine Ev.iload_n 1 (am_dt kX10_readsPerson 89 rfl) rfl rfl ?_
      refine Ev.iadd (am_dt kX10_readsPerson 90 rfl) ?_
      refine Ev.aload_n 0 (am_dt kX10_readsPerson 91 rfl) rfl rfl ?_
      refine Ev.getI (ci := 10) (k := 35) (am_dt kX10_readsPerson 92 rfl) (by decide) (by decide) rfl wd_654 f15.1 ?_
      obtain ⟨f16, k⟩ := k
      refine Ev.iast' (am_dt kX10_readsPerson 93 rfl) (am_L.s f15 7 rfl) f16 (fun h17 eh17 => ?_)
      have k := k h17 eh17
      have f15 := am_LsI eh17 f15
      refine Ev.aload_n 0 (am_dt kX10_readsPerson 94 rfl) rfl rfl ?_
      refine Ev.ldc2 (v := 332864552) (am_dt kX10_readsPerson 95 rfl) wd_644 ?_
      refine Ev.callV (ci := 10) (v := mX10_needsWord) (As := [.long 332864552]) (st := []) okX10_needsWord wd_662 wd_663 wd_664 (am_dt kX10_readsPerson 96 rfl) (by decide) rfl rfl (Nat.le_of_ble_eq_true rfl) (Nat.le_of_ble_eq_true rfl) f15.1 ?_
      refine EvM.mono k (fun r19 h18 k => ?_)
      obtain ⟨v20, rfl, k⟩ := k
      show Ev w _ _ _ 177 _ [.int v20] _ _
      refine Ev.if_eq (tgt := 191) (am_dt kX10_readsPerson 97 rfl) (by decide) (fun c => ?_) (fun c => ?_)
      · have k := k.1 c
        refine Ev.iconst (v := 0) (am_dt kX10_readsPerson 103 rfl) (by decide) ?_
        exact Ev.iret .boolean (am_dt kX10_readsPerson 104 rfl) rfl rfl k
      · have k := k.2 c
        refine Ev.aload_n 0 (am_dt kX10_readsPerson 98 rfl) rfl rfl ?_
        refine Ev.iconst (v := 0) (am_dt kX10_readsPerson 99 rfl) (by decide) ?_
        refine Ev.sipush (v := 999) (am_dt kX10_readsPerson 100 rfl) (by decide) ?_
        obtain ⟨f21, k⟩ := k
        refine Ev.callV (ci := 10) (v := mX10_needsNumber) (As := [.int 0, .int 999]) (st := []) okX10_needsNumber wd_656 wd_657 wd_658 (am_dt kX10_readsPerson 101 rfl) (by decide) rfl rfl (Nat.le_of_ble_eq_true rfl) (Nat.le_of_ble_eq_true rfl) f21.1 ?_
        refine EvM.mono k (fun r23 h22 k => ?_)
        obtain ⟨v24, rfl, k⟩ := k
        show Ev w _ _ _ 188 _ [.int v24] _ _
        refine Ev.if_ne (tgt := 193) (am_dt kX10_readsPerson 102 rfl) (by decide) (fun c => ?_) (fun c => ?_)
        · have k := k.2 c
          refine Ev.aload_n 0 (am_dt kX10_readsPerson 105 rfl) rfl rfl ?_
          obtain ⟨f25, k⟩ := k
          refine Ev.getRe (ci := 10) (k := 17) (r := a0 + 9) (am_dt kX10_readsPerson 106 rfl) (by decide) (by decide) rfl wd_550 f25.1 (am_L.r f25 8 rfl) (by omega) ?_
          refine Ev.bipush (v := 16) (am_dt kX10_readsPerson 107 rfl) (by decide) ?_
          refine Ev.iload_n 1 (am_dt kX10_readsPerson 108 rfl) rfl rfl ?_
          refine Ev.iadd (am_dt kX10_readsPerson 109 rfl) ?_
          refine Ev.aload_n 0 (am_dt kX10_readsPerson 110 rfl) rfl rfl ?_
          refine Ev.getI (ci := 10) (k := 35) (am_dt kX10_readsPerson 111 rfl) (by decide) (by decide) rfl wd_654 f25.1 ?_
          obtain ⟨f26, k⟩ := k
          refine Ev.iast' (am_dt kX10_readsPerson 112 rfl) (am_L.s f25 8 rfl) f26 (fun h27 eh27 => ?_)
          have k := k h27 eh27
          have f25 := am_LsI eh27 f25
          refine Ev.aload_n 0 (am_dt kX10_readsPerson 113 rfl) rfl rfl ?_
          refine Ev.ldc2 (v := 70517) (am_dt kX10_readsPerson 114 rfl) wd_645 ?_
          refine Ev.callV (ci := 10) (v := mX10_needsWord) (As := [.long 70517]) (st := []) okX10_needsWord wd_662 wd_663 wd_664 (am_dt kX10_readsPerson 115 rfl) (by decide) rfl rfl (Nat.le_of_ble_eq_true rfl) (Nat.le_of_ble_eq_true rfl) f25.1 ?_
          refine EvM.mono k (fun r29 h28 k => ?_)
          obtain ⟨v30, rfl, k⟩ := k
          show Ev w _ _ _ 213 _ [.int v30] _ _
          refine Ev.if_eq (tgt := 226) (am_dt kX10_readsPerson 116 rfl) (by decide) (fun c => ?_) (fun c => ?_)
          · have k := k.1 c
            refine Ev.iconst (v := 0) (am_dt kX10_readsPerson 122 rfl) (by decide) ?_
            exact Ev.iret .boolean (am_dt kX10_readsPerson 123 rfl) rfl rfl k
          · have k := k.2 c
            refine Ev.aload_n 0 (am_dt kX10_readsPerson 117 rfl) rfl rfl ?_
            refine Ev.iconst (v := 0) (am_dt kX10_readsPerson 118 rfl) (by decide) ?_
            refine Ev.bipush (v := 99) (am_dt kX10_readsPerson 119 rfl) (by decide) ?_
            obtain ⟨f31, k⟩ := k
            refine Ev.callV (ci := 10) (v := mX10_needsNumber) (As := [.int 0, .int 99]) (st := []) okX10_needsNumber wd_656 wd_657 wd_658 (am_dt kX10_readsPerson 120 rfl) (by decide) rfl rfl (Nat.le_of_ble_eq_true rfl) (Nat.le_of_ble_eq_true rfl) f31.1 ?_
            refine EvM.mono k (fun r33 h32 k => ?_)
            obtain ⟨v34, rfl, k⟩ := k
            show Ev w _ _ _ 223 _ [.int v34] _ _
            refine Ev.if_ne (tgt := 228) (am_dt kX10_readsPerson 121 rfl) (by decide) (fun c => ?_) (fun c => ?_)
            · have k := k.2 c
              refine Ev.aload_n 0 (am_dt kX10_readsPerson 124 rfl) rfl rfl ?_
              obtain ⟨f35, k⟩ := k
              refine Ev.getRe (ci := 10) (k := 18) (r := a0 + 10) (am_dt kX10_readsPerson 125 rfl) (by decide) (by decide) rfl wd_551 f35.1 (am_L.r f35 9 rfl) (by omega) ?_
              refine Ev.bipush (v := 16) (am_dt kX10_readsPerson 126 rfl) (by decide) ?_
              refine Ev.iload_n 1 (am_dt kX10_readsPerson 127 rfl) rfl rfl ?_
              refine Ev.iadd (am_dt kX10_readsPerson 128 rfl) ?_
              refine Ev.aload_n 0 (am_dt kX10_readsPerson 129 rfl) rfl rfl ?_
              refine Ev.getI (ci := 10) (k := 35) (am_dt kX10_readsPerson 130 rfl) (by decide) (by decide) rfl wd_654 f35.1 ?_
              obtain ⟨f36, k⟩ := k
              refine Ev.iast' (am_dt kX10_readsPerson 131 rfl) (am_L.s f35 9 rfl) f36 (fun h37 eh37 => ?_)
              have k := k h37 eh37
              have f35 := am_LsI eh37 f35
              refine Ev.aload_n 0 (am_dt kX10_readsPerson 132 rfl) rfl rfl ?_
              refine Ev.callV (ci := 10) (v := mX10_kindAt) (As := []) (st := []) okX10_kindAt wd_672 wd_673 wd_674 (am_dt kX10_readsPerson 133 rfl) (by decide) rfl rfl (Nat.le_of_ble_eq_true rfl) (Nat.le_of_ble_eq_true rfl) f35.1 ?_
              refine EvM.mono k (fun r39 h38 k => ?_)
              obtain ⟨v40, rfl, k⟩ := k
              show Ev w _ _ _ 245 _ [.int v40] _ _
              refine Ev.istore_n (lv' := [(3, .int v40), (0, .ref a0), (1, .int x1)]) (am_dt kX10_readsPerson 134 rfl) rfl (by decide) rfl ?_
              refine Ev.iload_n 0 (am_dt kX10_readsPerson 135 rfl) rfl rfl ?_
              refine Ev.if_ge (tgt := 256) (am_dt kX10_readsPerson 136 rfl) (by decide) (fun c => ?_) (fun c => ?_)
              · have k := k.1 c
                refine Ev.iload_n 0 (am_dt kX10_readsPerson 141 rfl) rfl rfl ?_
                refine Ev.iconst (v := 5) (am_dt kX10_readsPerson 142 rfl) (by decide) ?_
                refine Ev.icmp_ne (tgt := 277) (am_dt kX10_readsPerson 143 rfl) (by decide) (fun c => ?_) (fun c => ?_)
                · have k := k.2 c
                  exact Ev.sub [1, 2, 0] rfl k
                · have k := k.1 c
                  refine Ev.aload_n 1 (am_dt kX10_readsPerson 144 rfl) rfl rfl ?_
                  refine Ev.iconst (v := 1) (am_dt kX10_readsPerson 145 rfl) (by decide) ?_
                  obtain ⟨f41, k⟩ := k
                  refine Ev.callV (ci := 10) (v := mX10_choosers) (As := [.int 1]) (st := []) okX10_choosers wd_675 wd_676 wd_677 (am_dt kX10_readsPerson 146 rfl) (by decide) rfl rfl (Nat.le_of_ble_eq_true rfl) (Nat.le_of_ble_eq_true rfl) f41.1 ?_
                  refine EvM.mono k (fun r43 h42 k => ?_)
                  obtain ⟨v44, rfl, k⟩ := k
                  show Ev w _ _ _ 266 _ [.int v44] _ _
                  refine Ev.bipush (v := 8) (am_dt kX10_readsPerson 147 rfl) (by decide) ?_
                  refine Ev.icmp_ne (tgt := 277) (am_dt kX10_readsPerson 148 rfl) (by decide) (fun c => ?_) (fun c => ?_)
                  · have k := k.2 c
                    exact Ev.sub [1, 2, 0] rfl k
                  · have k := k.1 c
                    refine Ev.aload_n 1 (am_dt kX10_readsPerson 149 rfl) rfl rfl ?_
                    refine Ev.iconst (v := 5) (am_dt kX10_readsPerson 150 rfl) (by decide) ?_
                    obtain ⟨f45, k⟩ := k
                    refine Ev.callV (ci := 10) (v := mX10_fails) (As := [.int 5]) (st := []) okX10_fails wd_615 wd_616 wd_617 (am_dt kX10_readsPerson 151 rfl) (by decide) rfl rfl (Nat.le_of_ble_eq_true rfl) (Nat.le_of_ble_eq_true rfl) f45.1 ?_
                    refine EvM.mono k (fun r47 h46 k => ?_)
                    obtain ⟨v48, rfl, k⟩ := k
                    show Ev w _ _ _ 276 _ [.int v48] _ _
                    exact Ev.iret .boolean (am_dt kX10_readsPerson 152 rfl) rfl k.1 k.2
              · have k := k.2 c
                refine Ev.aload_n 1 (am_dt kX10_readsPerson 137 rfl) rfl rfl ?_
                refine Ev.iconst (v := 1) (am_dt kX10_readsPerson 138 rfl) (by decide) ?_
                obtain ⟨f50, k⟩ := k
                refine Ev.callV (ci := 10) (v := mX10_fails) (As := [.int 1]) (st := []) okX10_fails wd_615 wd_616 wd_617 (am_dt kX10_readsPerson 139 rfl) (by decide) rfl rfl (Nat.le_of_ble_eq_true rfl) (Nat.le_of_ble_eq_true rfl) f50.1 ?_
                refine EvM.mono k (fun r52 h51 k => ?_)
                obtain ⟨v53, rfl, k⟩ := k
                show Ev w _ _ _ 255 _ [.int v53] _ _
                exact Ev.iret .boolean (am_dt kX10_readsPerson 140 rfl) rfl k.1 k.2
            · have k := k.1 c
              refine Ev.iconst (v := 0) (am_dt kX10_readsPerson 122 rfl) (by decide) ?_
              exact Ev.iret .boolean (am_dt kX10_readsPerson 123 rfl) rfl rfl k
        · have k := k.1 c
          refine Ev.iconst (v := 0) (am_dt kX10_readsPerson 103 rfl) (by decide) ?_
          exact Ev.iret .boolean (am_dt kX10_readsPerson 104 rfl) rfl rfl k
    · have k := k.1 c
      refine Ev.iconst (v := 0) (am_dt kX10_readsPerson 84 rfl) (by decide) ?_
      exact Ev.iret .boolean (am_dt kX10_readsPerson 85 rfl) rfl rfl k
set_option maxRecDepth 20000 in
set_option maxHeartbeats 2000000 in
theorem bX10_readsPerson_277 {w : am_W} {d : Nat} {h : am_H} {Q : Option Value → am_H → Prop} {a0 : Nat} {x1 : Int32} {x3 : Int32}  (k : (am_L 10 a0 h) ∧ ((vp_in (16 + x1) (hN h (a0 + 11))) ∧ (∀ h3 : am_H, h3 = sI h (a0 + 11) (Int32.toNatClampNeg (16 + x1)) x3 → ((vp_in 17 (hN h3 (a0 + 2))) ∧ ((vp_in 17 (hN h3 (a0 + 2))) ∧ (∀ h6 : am_H, h6 = sI h3 (a0 + 2) (Int32.toNatClampNeg 17) ((hI h3 (a0 + 2) (Int32.toNatClampNeg 17)) + 1) → (EvM w mX10_nextToken d [.ref a0] h6 (fun r8 h7 => r8 = none ∧ ((am_L 10 a0 h7) ∧ (EvM w mX10_ends d [.ref a0] h7 (fun r11 h10 => ∃ v12 : Int32, r11 = some (.int v12) ∧ (narrow .boolean (.int v12) = .int v12 ∧ (Q (some (.int v12)) h10))))))))))))) : Ev w (am_Z w) mX10_readsPerson (d + 1) 277 [(0, .ref a0), (1, .int x1), (3, .int x3)] [] h Q := by
  refine Ev.aload_n 0 (am_dt kX10_readsPerson 153 rfl) rfl rfl ?_
  obtain ⟨f1, k⟩ := k
  refine Ev.getRe (ci := 10) (k := 19) (r := a0 + 11) (am_dt kX10_readsPerson 154 rfl) (by decide) (by decide) rfl wd_552 f1.1 (am_L.r f1 10 rfl) (by omega) ?_
  refine Ev.bipush (v := 16) (am_dt kX10_readsPerson 155 rfl) (by decide) ?_
  refine Ev.iload_n 1 (am_dt kX10_readsPerson 156 rfl) rfl rfl ?_
  refine Ev.iadd (am_dt kX10_readsPerson 157 rfl) ?_
  refine Ev.iload_n 2 (am_dt kX10_readsPerson 158 rfl) rfl rfl ?_
  obtain ⟨f2, k⟩ := k
  refine Ev.iast' (am_dt kX10_readsPerson 159 rfl) (am_L.s f1 10 rfl) f2 (fun h3 eh3 => ?_)
  have k := k h3 eh3
  have f1 := am_LsI eh3 f1
  refine Ev.aload_n 0 (am_dt kX10_readsPerson 160 rfl) rfl rfl ?_
  refine Ev.getRe (ci := 10) (k := 10) (r := a0 + 2) (am_dt kX10_readsPerson 161 rfl) (by decide) (by decide) rfl wd_543 f1.1 (am_L.r f1 1 rfl) (by omega) ?_
  refine Ev.bipush (v := 17) (am_dt kX10_readsPerson 162 rfl) (by decide) ?_
  refine Ev.dup2 (am_dt kX10_readsPerson 163 rfl) rfl rfl ?_
  obtain ⟨f4, k⟩ := k
  refine Ev.iald (am_dt kX10_readsPerson 164 rfl) (am_L.s f1 1 rfl) f4 ?_
  refine Ev.iconst (v := 1) (am_dt kX10_readsPerson 165 rfl) (by decide) ?_
  refine Ev.iadd (am_dt kX10_readsPerson 166 rfl) ?_
  obtain ⟨f5, k⟩ := k
  refine Ev.iast' (am_dt kX10_readsPerson 167 rfl) (am_L.s f1 1 rfl) f5 (fun h6 eh6 => ?_)
  have k := k h6 eh6
  have f1 := am_LsI eh6 f1
  refine Ev.aload_n 0 (am_dt kX10_readsPerson 168 rfl) rfl rfl ?_
  refine Ev.callV (ci := 10) (v := mX10_nextToken) (As := []) (st := []) okX10_nextToken wd_623 wd_624 wd_625 (am_dt kX10_readsPerson 169 rfl) (by decide) rfl rfl (Nat.le_of_ble_eq_true rfl) (Nat.le_of_ble_eq_true rfl) f1.1 ?_
  refine EvM.mono k (fun r8 h7 k => ?_)
  obtain ⟨rfl, k⟩ := k
  show Ev w _ _ _ 302 _ [] _ _
  refine Ev.aload_n 0 (am_dt kX10_readsPerson 170 rfl) rfl rfl ?_
  obtain ⟨f9, k⟩ := k
  refine Ev.callV (ci := 10) (v := mX10_ends) (As := []) (st := []) okX10_ends wd_659 wd_660 wd_661 (am_dt kX10_readsPerson 171 rfl) (by decide) rfl rfl (Nat.le_of_ble_eq_true rfl) (Nat.le_of_ble_eq_true rfl) f9.1 ?_
  refine EvM.mono k (fun r11 h10 k => ?_)
  obtain ⟨v12, rfl, k⟩ := k
  show Ev w _ _ _ 306 _ [.int v12] _ _
  exact Ev.iret .boolean (am_dt kX10_readsPerson 172 rfl) rfl k.1 k.2
set_option maxRecDepth 20000 in
set_option maxHeartbeats 2000000 in
theorem bX10_readsAll_0 {w : am_W} {d : Nat} {h : am_H} {Q : Option Value → am_H → Prop} {a0 : Nat}  (k : (am_L 10 a0 h) ∧ (EvM w mX10_starts0 d [.ref a0, .int 1] h (fun r3 h2 => r3 = none ∧ ((am_L 10 a0 h2) ∧ (∀ h5 : am_H, h5 = sI h2 a0 22 0 → (∀ h6 : am_H, h6 = sI h5 a0 21 1000 → (∀ h7 : am_H, h7 = sI h6 a0 3 (hI h6 a0 1) → (∀ h8 : am_H, h8 = sI h7 a0 1 0 → (∀ h9 : am_H, h9 = sI h8 a0 4 0 → (EvM w mX10_nextToken d [.ref a0] h9 (fun r11 h10 => r11 = none ∧ (Ev w (am_Z w) mX10_readsAll (d + 1) 39 [(0, .ref a0)] [] h10 Q)))))))))))) : EvM w mX10_readsAll (d + 1) [.ref a0] h Q := by
  show Ev w (am_Z w) mX10_readsAll (d + 1) 0 [(0, .ref a0)] [] h Q
  refine Ev.aload_n 0 (am_dt kX10_readsAll 0 rfl) rfl rfl ?_
  refine Ev.iconst (v := 1) (am_dt kX10_readsAll 1 rfl) (by decide) ?_
  obtain ⟨f1, k⟩ := k
  refine Ev.callV (ci := 10) (v := mX10_starts0) (As := [.int 1]) (st := []) okX10_starts0 wd_579 wd_580 wd_581 (am_dt kX10_readsAll 2 rfl) (by decide) rfl rfl (Nat.le_of_ble_eq_true rfl) (Nat.le_of_ble_eq_true rfl) f1.1 ?_
  refine EvM.mono k (fun r3 h2 k => ?_)
  obtain ⟨rfl, k⟩ := k
  show Ev w _ _ _ 5 _ [] _ _
  refine Ev.aload_n 0 (am_dt kX10_readsAll 3 rfl) rfl rfl ?_
  refine Ev.iconst (v := 0) (am_dt kX10_readsAll 4 rfl) (by decide) ?_
  obtain ⟨f4, k⟩ := k
  refine Ev.putI' (ci := 10) (k := 22) (am_dt kX10_readsAll 5 rfl) (by decide) (by decide) wd_655 rfl rfl rfl rfl f4.1 (fun h5 eh5 => ?_)
  have k := k h5 eh5
  have f4 := am_LsI eh5 f4
  refine Ev.aload_n 0 (am_dt kX10_readsAll 6 rfl) rfl rfl ?_
  refine Ev.sipush (v := 1000) (am_dt kX10_readsAll 7 rfl) (by decide) ?_
  refine Ev.putI' (ci := 10) (k := 21) (am_dt kX10_readsAll 8 rfl) (by decide) (by decide) wd_598 rfl rfl rfl rfl f4.1 (fun h6 eh6 => ?_)
  have k := k h6 eh6
  have f4 := am_LsI eh6 f4
  refine Ev.aload_n 0 (am_dt kX10_readsAll 9 rfl) rfl rfl ?_
  refine Ev.aload_n 0 (am_dt kX10_readsAll 10 rfl) rfl rfl ?_
  refine Ev.getI (ci := 10) (k := 1) (am_dt kX10_readsAll 11 rfl) (by decide) (by decide) rfl wd_584 f4.1 ?_
  refine Ev.putI' (ci := 10) (k := 3) (am_dt kX10_readsAll 12 rfl) (by decide) (by decide) wd_586 rfl rfl rfl rfl f4.1 (fun h7 eh7 => ?_)
  have k := k h7 eh7
  have f4 := am_LsI eh7 f4
  refine Ev.aload_n 0 (am_dt kX10_readsAll 13 rfl) rfl rfl ?_
  refine Ev.iconst (v := 0) (am_dt kX10_readsAll 14 rfl) (by decide) ?_
  refine Ev.putI' (ci := 10) (k := 1) (am_dt kX10_readsAll 15 rfl) (by decide) (by decide) wd_584 rfl rfl rfl rfl f4.1 (fun h8 eh8 => ?_)
  have k := k h8 eh8
  have f4 := am_LsI eh8 f4
  refine Ev.aload_n 0 (am_dt kX10_readsAll 16 rfl) rfl rfl ?_
  refine Ev.iconst (v := 0) (am_dt kX10_readsAll 17 rfl) (by decide) ?_
  refine Ev.putI' (ci := 10) (k := 4) (am_dt kX10_readsAll 18 rfl) (by decide) (by decide) wd_587 rfl rfl rfl rfl f4.1 (fun h9 eh9 => ?_)
  have k := k h9 eh9
  have f4 := am_LsI eh9 f4
  refine Ev.aload_n 0 (am_dt kX10_readsAll 19 rfl) rfl rfl ?_
  refine Ev.callV (ci := 10) (v := mX10_nextToken) (As := []) (st := []) okX10_nextToken wd_623 wd_624 wd_625 (am_dt kX10_readsAll 20 rfl) (by decide) rfl rfl (Nat.le_of_ble_eq_true rfl) (Nat.le_of_ble_eq_true rfl) f4.1 ?_
  refine EvM.mono k (fun r11 h10 k => ?_)
  obtain ⟨rfl, k⟩ := k
  show Ev w _ _ _ 39 _ [] _ _
  exact k
set_option maxRecDepth 20000 in
set_option maxHeartbeats 2000000 in
theorem bX10_readsAll_39 {w : am_W} {d : Nat} {h : am_H} {Q : Option Value → am_H → Prop} {a0 : Nat}  (k : (am_L 10 a0 h) ∧ (((hI h a0 6) = 0 → (Q (some (.int 1)) h)) ∧ (¬ (hI h a0 6) = 0 → (EvM w mX10_isWord d [.ref a0, .long 365647] h (fun r3 h2 => ∃ v4 : Int32, r3 = some (.int v4) ∧ ((v4 = 0 → ((am_L 10 a0 h2) ∧ (EvM w mX10_isWord d [.ref a0, .long 407041] h2 (fun r7 h6 => ∃ v8 : Int32, r7 = some (.int v8) ∧ ((v8 = 0 → ((am_L 10 a0 h6) ∧ (EvM w mX10_isWord d [.ref a0, .long 1359415] h6 (fun r11 h10 => ∃ v12 : Int32, r11 = some (.int v12) ∧ ((v12 = 0 → ((am_L 10 a0 h10) ∧ (EvM w mX10_isWord d [.ref a0, .long 380651] h10 (fun r15 h14 => ∃ v16 : Int32, r15 = some (.int v16) ∧ ((v16 = 0 → ((am_L 10 a0 h14) ∧ (EvM w mX10_isWord d [.ref a0, .long 70340] h14 (fun r19 h18 => ∃ v20 : Int32, r19 = some (.int v20) ∧ ((v20 = 0 → ((am_L 10 a0 h18) ∧ (EvM w mX10_isWord d [.ref a0, .long 8798] h18 (fun r23 h22 => ∃ v24 : Int32, r23 = some (.int v24) ∧ ((v24 = 0 → ((am_L 10 a0 h22) ∧ (EvM w mX10_isWord d [.ref a0, .long 232608281] h22 (fun r27 h26 => ∃ v28 : Int32, r27 = some (.int v28) ∧ ((v28 = 0 → ((am_L 10 a0 h26) ∧ (EvM w mX10_fails d [.ref a0, .int 1] h26 (fun r31 h30 => ∃ v32 : Int32, r31 = some (.int v32) ∧ ((v32 = 0 → (Q (some (.int 0)) h30)) ∧ (¬ v32 = 0 → (Ev w (am_Z w) mX10_readsAll (d + 1) 39 [(0, .ref a0)] [] h30 Q))))))) ∧ (¬ v28 = 0 → ((am_L 10 a0 h26) ∧ (EvM w mX10_readsPerson d [.ref a0] h26 (fun r35 h34 => ∃ v36 : Int32, r35 = some (.int v36) ∧ ((v36 = 0 → (Q (some (.int 0)) h34)) ∧ (¬ v36 = 0 → (Ev w (am_Z w) mX10_readsAll (d + 1) 39 [(0, .ref a0)] [] h34 Q)))))))))))) ∧ (¬ v24 = 0 → ((am_L 10 a0 h22) ∧ (EvM w mX10_readsLaw d [.ref a0] h22 (fun r39 h38 => ∃ v40 : Int32, r39 = some (.int v40) ∧ ((v40 = 0 → (Q (some (.int 0)) h38)) ∧ (¬ v40 = 0 → (Ev w (am_Z w) mX10_readsAll (d + 1) 39 [(0, .ref a0)] [] h38 Q)))))))))))) ∧ (¬ v20 = 0 → ((am_L 10 a0 h18) ∧ (EvM w mX10_readsOne d [.ref a0, .int 5, .int 0, .int 1000] h18 (fun r43 h42 => ∃ v44 : Int32, r43 = some (.int v44) ∧ ((v44 = 0 → (Q (some (.int 0)) h42)) ∧ (¬ v44 = 0 → (Ev w (am_Z w) mX10_readsAll (d + 1) 39 [(0, .ref a0)] [] h42 Q)))))))))))) ∧ (¬ v16 = 0 → ((am_L 10 a0 h14) ∧ (EvM w mX10_readsSide d [.ref a0] h14 (fun r47 h46 => ∃ v48 : Int32, r47 = some (.int v48) ∧ ((v48 = 0 → (Q (some (.int 0)) h46)) ∧ (¬ v48 = 0 → (Ev w (am_Z w) mX10_readsAll (d + 1) 39 [(0, .ref a0)] [] h46 Q)))))))))))) ∧ (¬ v12 = 0 → ((am_L 10 a0 h10) ∧ (EvM w mX10_readsOne d [.ref a0, .int 2, .int 1, .int 2] h10 (fun r51 h50 => ∃ v52 : Int32, r51 = some (.int v52) ∧ ((v52 = 0 → (Q (some (.int 0)) h50)) ∧ (¬ v52 = 0 → (Ev w (am_Z w) mX10_readsAll (d + 1) 39 [(0, .ref a0)] [] h50 Q)))))))))))) ∧ (¬ v8 = 0 → ((am_L 10 a0 h6) ∧ (EvM w mX10_readsOne d [.ref a0, .int 1, .int 0, .int 99] h6 (fun r55 h54 => ∃ v56 : Int32, r55 = some (.int v56) ∧ ((v56 = 0 → (Q (some (.int 0)) h54)) ∧ (¬ v56 = 0 → (Ev w (am_Z w) mX10_readsAll (d + 1) 39 [(0, .ref a0)] [] h54 Q)))))))))))) ∧ (¬ v4 = 0 → ((am_L 10 a0 h2) ∧ (EvM w mX10_readsOne d [.ref a0, .int 0, .int 1, .int 40] h2 (fun r59 h58 => ∃ v60 : Int32, r59 = some (.int v60) ∧ ((v60 = 0 → (Q (some (.int 0)) h58)) ∧ (¬ v60 = 0 → (Ev w (am_Z w) mX10_readsAll (d + 1) 39 [(0, .ref a0)] [] h58 Q))))))))))))) : Ev w (am_Z w) mX10_readsAll (d + 1) 39 [(0, .ref a0)] [] h Q := by
  refine Ev.aload_n 0 (am_dt kX10_readsAll 21 rfl) rfl rfl ?_
  obtain ⟨f1, k⟩ := k
  refine Ev.getI (ci := 10) (k := 6) (am_dt kX10_readsAll 22 rfl) (by decide) (by decide) rfl wd_591 f1.1 ?_
  refine Ev.if_eq (tgt := 196) (am_dt kX10_readsAll 23 rfl) (by decide) (fun c => ?_) (fun c => ?_)
  · have k := k.1 c
    refine Ev.iconst (v := 1) (am_dt kX10_readsAll 94 rfl) (by decide) ?_
    exact Ev.iret .boolean (am_dt kX10_readsAll 95 rfl) rfl rfl k
  · have k := k.2 c
    refine Ev.aload_n 0 (am_dt kX10_readsAll 24 rfl) rfl rfl ?_
    refine Ev.ldc2 (v := 365647) (am_dt kX10_readsAll 25 rfl) wd_635 ?_
    refine Ev.callV (ci := 10) (v := mX10_isWord) (As := [.long 365647]) (st := []) okX10_isWord wd_612 wd_613 wd_614 (am_dt kX10_readsAll 26 rfl) (by decide) rfl rfl (Nat.le_of_ble_eq_true rfl) (Nat.le_of_ble_eq_true rfl) f1.1 ?_
    refine EvM.mono k (fun r3 h2 k => ?_)
    obtain ⟨v4, rfl, k⟩ := k
    show Ev w _ _ _ 53 _ [.int v4] _ _
    refine Ev.if_eq (tgt := 67) (am_dt kX10_readsAll 27 rfl) (by decide) (fun c => ?_) (fun c => ?_)
    · have k := k.1 c
      refine Ev.aload_n 0 (am_dt kX10_readsAll 34 rfl) rfl rfl ?_
      refine Ev.ldc2 (v := 407041) (am_dt kX10_readsAll 35 rfl) wd_636 ?_
      obtain ⟨f5, k⟩ := k
      refine Ev.callV (ci := 10) (v := mX10_isWord) (As := [.long 407041]) (st := []) okX10_isWord wd_612 wd_613 wd_614 (am_dt kX10_readsAll 36 rfl) (by decide) rfl rfl (Nat.le_of_ble_eq_true rfl) (Nat.le_of_ble_eq_true rfl) f5.1 ?_
      refine EvM.mono k (fun r7 h6 k => ?_)
      obtain ⟨v8, rfl, k⟩ := k
      show Ev w _ _ _ 74 _ [.int v8] _ _
      refine Ev.if_eq (tgt := 88) (am_dt kX10_readsAll 37 rfl) (by decide) (fun c => ?_) (fun c => ?_)
      · have k := k.1 c
        refine Ev.aload_n 0 (am_dt kX10_readsAll 44 rfl) rfl rfl ?_
        refine Ev.ldc2 (v := 1359415) (am_dt kX10_readsAll 45 rfl) wd_637 ?_
        obtain ⟨f9, k⟩ := k
        refine Ev.callV (ci := 10) (v := mX10_isWord) (As := [.long 1359415]) (st := []) okX10_isWord wd_612 wd_613 wd_614 (am_dt kX10_readsAll 46 rfl) (by decide) rfl rfl (Nat.le_of_ble_eq_true rfl) (Nat.le_of_ble_eq_true rfl) f9.1 ?_
        refine EvM.mono k (fun r11 h10 k => ?_)
        obtain ⟨v12, rfl, k⟩ := k
        show Ev w _ _ _ 95 _ [.int v12] _ _
        refine Ev.if_eq (tgt := 108) (am_dt kX10_readsAll 47 rfl) (by decide) (fun c => ?_) (fun c => ?_)
        · have k := k.1 c
          refine Ev.aload_n 0 (am_dt kX10_readsAll 54 rfl) rfl rfl ?_
          refine Ev.ldc2 (v := 380651) (am_dt kX10_readsAll 55 rfl) wd_638 ?_
          obtain ⟨f13, k⟩ := k
          refine Ev.callV (ci := 10) (v := mX10_isWord) (As := [.long 380651]) (st := []) okX10_isWord wd_612 wd_613 wd_614 (am_dt kX10_readsAll 56 rfl) (by decide) rfl rfl (Nat.le_of_ble_eq_true rfl) (Nat.le_of_ble_eq_true rfl) f13.1 ?_
          refine EvM.mono k (fun r15 h14 k => ?_)
          obtain ⟨v16, rfl, k⟩ := k
          show Ev w _ _ _ 115 _ [.int v16] _ _
          refine Ev.if_eq (tgt := 125) (am_dt kX10_readsAll 57 rfl) (by decide) (fun c => ?_) (fun c => ?_)
          · have k := k.1 c
            refine Ev.aload_n 0 (am_dt kX10_readsAll 61 rfl) rfl rfl ?_
            refine Ev.ldc2 (v := 70340) (am_dt kX10_readsAll 62 rfl) wd_640 ?_
            obtain ⟨f17, k⟩ := k
            refine Ev.callV (ci := 10) (v := mX10_isWord) (As := [.long 70340]) (st := []) okX10_isWord wd_612 wd_613 wd_614 (am_dt kX10_readsAll 63 rfl) (by decide) rfl rfl (Nat.le_of_ble_eq_true rfl) (Nat.le_of_ble_eq_true rfl) f17.1 ?_
            refine EvM.mono k (fun r19 h18 k => ?_)
            obtain ⟨v20, rfl, k⟩ := k
            show Ev w _ _ _ 132 _ [.int v20] _ _
            refine Ev.if_eq (tgt := 147) (am_dt kX10_readsAll 64 rfl) (by decide) (fun c => ?_) (fun c => ?_)
            · have k := k.1 c
              refine Ev.aload_n 0 (am_dt kX10_readsAll 71 rfl) rfl rfl ?_
              refine Ev.ldc2 (v := 8798) (am_dt kX10_readsAll 72 rfl) wd_641 ?_
              obtain ⟨f21, k⟩ := k
              refine Ev.callV (ci := 10) (v := mX10_isWord) (As := [.long 8798]) (st := []) okX10_isWord wd_612 wd_613 wd_614 (am_dt kX10_readsAll 73 rfl) (by decide) rfl rfl (Nat.le_of_ble_eq_true rfl) (Nat.le_of_ble_eq_true rfl) f21.1 ?_
              refine EvM.mono k (fun r23 h22 k => ?_)
              obtain ⟨v24, rfl, k⟩ := k
              show Ev w _ _ _ 154 _ [.int v24] _ _
              refine Ev.if_eq (tgt := 164) (am_dt kX10_readsAll 74 rfl) (by decide) (fun c => ?_) (fun c => ?_)
              · have k := k.1 c
                refine Ev.aload_n 0 (am_dt kX10_readsAll 78 rfl) rfl rfl ?_
                refine Ev.ldc2 (v := 232608281) (am_dt kX10_readsAll 79 rfl) wd_642 ?_
                obtain ⟨f25, k⟩ := k
                refine Ev.callV (ci := 10) (v := mX10_isWord) (As := [.long 232608281]) (st := []) okX10_isWord wd_612 wd_613 wd_614 (am_dt kX10_readsAll 80 rfl) (by decide) rfl rfl (Nat.le_of_ble_eq_true rfl) (Nat.le_of_ble_eq_true rfl) f25.1 ?_
                refine EvM.mono k (fun r27 h26 k => ?_)
                obtain ⟨v28, rfl, k⟩ := k
                show Ev w _ _ _ 171 _ [.int v28] _ _
                refine Ev.if_eq (tgt := 181) (am_dt kX10_readsAll 81 rfl) (by decide) (fun c => ?_) (fun c => ?_)
                · have k := k.1 c
                  refine Ev.aload_n 0 (am_dt kX10_readsAll 85 rfl) rfl rfl ?_
                  refine Ev.iconst (v := 1) (am_dt kX10_readsAll 86 rfl) (by decide) ?_
                  obtain ⟨f29, k⟩ := k
                  refine Ev.callV (ci := 10) (v := mX10_fails) (As := [.int 1]) (st := []) okX10_fails wd_615 wd_616 wd_617 (am_dt kX10_readsAll 87 rfl) (by decide) rfl rfl (Nat.le_of_ble_eq_true rfl) (Nat.le_of_ble_eq_true rfl) f29.1 ?_
                  refine EvM.mono k (fun r31 h30 k => ?_)
                  obtain ⟨v32, rfl, k⟩ := k
                  show Ev w _ _ _ 186 _ [.int v32] _ _
                  refine Ev.istore_n (lv' := [(1, .int v32), (0, .ref a0)]) (am_dt kX10_readsAll 88 rfl) rfl (by decide) rfl ?_
                  refine Ev.iload_n 0 (am_dt kX10_readsAll 89 rfl) rfl rfl ?_
                  refine Ev.if_ne (tgt := 193) (am_dt kX10_readsAll 90 rfl) (by decide) (fun c => ?_) (fun c => ?_)
                  · have k := k.2 c
                    refine Ev.goto (tgt := 39) (am_dt kX10_readsAll 93 rfl) (by decide) ?_
                    exact Ev.sub [1] rfl k
                  · have k := k.1 c
                    refine Ev.iconst (v := 0) (am_dt kX10_readsAll 91 rfl) (by decide) ?_
                    exact Ev.iret .boolean (am_dt kX10_readsAll 92 rfl) rfl rfl k
                · have k := k.2 c
                  refine Ev.aload_n 0 (am_dt kX10_readsAll 82 rfl) rfl rfl ?_
                  obtain ⟨f33, k⟩ := k
                  refine Ev.callV (ci := 10) (v := mX10_readsPerson) (As := []) (st := []) okX10_readsPerson wd_678 wd_679 wd_680 (am_dt kX10_readsAll 83 rfl) (by decide) rfl rfl (Nat.le_of_ble_eq_true rfl) (Nat.le_of_ble_eq_true rfl) f33.1 ?_
                  refine EvM.mono k (fun r35 h34 k => ?_)
                  obtain ⟨v36, rfl, k⟩ := k
                  show Ev w _ _ _ 178 _ [.int v36] _ _
                  refine Ev.goto (tgt := 186) (am_dt kX10_readsAll 84 rfl) (by decide) ?_
                  refine Ev.istore_n (lv' := [(1, .int v36), (0, .ref a0)]) (am_dt kX10_readsAll 88 rfl) rfl (by decide) rfl ?_
                  refine Ev.iload_n 0 (am_dt kX10_readsAll 89 rfl) rfl rfl ?_
                  refine Ev.if_ne (tgt := 193) (am_dt kX10_readsAll 90 rfl) (by decide) (fun c => ?_) (fun c => ?_)
                  · have k := k.2 c
                    refine Ev.goto (tgt := 39) (am_dt kX10_readsAll 93 rfl) (by decide) ?_
                    exact Ev.sub [1] rfl k
                  · have k := k.1 c
                    refine Ev.iconst (v := 0) (am_dt kX10_readsAll 91 rfl) (by decide) ?_
                    exact Ev.iret .boolean (am_dt kX10_readsAll 92 rfl) rfl rfl k
              · have k := k.2 c
                refine Ev.aload_n 0 (am_dt kX10_readsAll 75 rfl) rfl rfl ?_
                obtain ⟨f37, k⟩ := k
                refine Ev.callV (ci := 10) (v := mX10_readsLaw) (As := []) (st := []) okX10_readsLaw wd_681 wd_682 wd_683 (am_dt kX10_readsAll 76 rfl) (by decide) rfl rfl (Nat.le_of_ble_eq_true rfl) (Nat.le_of_ble_eq_true rfl) f37.1 ?_
                refine EvM.mono k (fun r39 h38 k => ?_)
                obtain ⟨v40, rfl, k⟩ := k
                show Ev w _ _ _ 161 _ [.int v40] _ _
                refine Ev.goto (tgt := 186) (am_dt kX10_readsAll 77 rfl) (by decide) ?_
                refine Ev.istore_n (lv' := [(1, .int v40), (0, .ref a0)]) (am_dt kX10_readsAll 88 rfl) rfl (by decide) rfl ?_
                refine Ev.iload_n 0 (am_dt kX10_readsAll 89 rfl) rfl rfl ?_
                refine Ev.if_ne (tgt := 193) (am_dt kX10_readsAll 90 rfl) (by decide) (fun c => ?_) (fun c => ?_)
                · have k := k.2 c
                  refine Ev.goto (tgt := 39) (am_dt kX10_readsAll 93 rfl) (by decide) ?_
                  exact Ev.sub [1] rfl k
                · have k := k.1 c
                  refine Ev.iconst (v := 0) (am_dt kX10_readsAll 91 rfl) (by decide) ?_
                  exact Ev.iret .boolean (am_dt kX10_readsAll 92 rfl) rfl rfl k
            · have k := k.2 c
              refine Ev.aload_n 0 (am_dt kX10_readsAll 65 rfl) rfl rfl ?_
              refine Ev.iconst (v := 5) (am_dt kX10_readsAll 66 rfl) (by decide) ?_
              refine Ev.iconst (v := 0) (am_dt kX10_readsAll 67 rfl) (by decide) ?_
              refine Ev.sipush (v := 1000) (am_dt kX10_readsAll 68 rfl) (by decide) ?_
              obtain ⟨f41, k⟩ := k
              refine Ev.callV (ci := 10) (v := mX10_readsOne) (As := [.int 5, .int 0, .int 1000]) (st := []) okX10_readsOne wd_684 wd_685 wd_686 (am_dt kX10_readsAll 69 rfl) (by decide) rfl rfl (Nat.le_of_ble_eq_true rfl) (Nat.le_of_ble_eq_true rfl) f41.1 ?_
              refine EvM.mono k (fun r43 h42 k => ?_)
              obtain ⟨v44, rfl, k⟩ := k
              show Ev w _ _ _ 144 _ [.int v44] _ _
              refine Ev.goto (tgt := 186) (am_dt kX10_readsAll 70 rfl) (by decide) ?_
              refine Ev.istore_n (lv' := [(1, .int v44), (0, .ref a0)]) (am_dt kX10_readsAll 88 rfl) rfl (by decide) rfl ?_
              refine Ev.iload_n 0 (am_dt kX10_readsAll 89 rfl) rfl rfl ?_
              refine Ev.if_ne (tgt := 193) (am_dt kX10_readsAll 90 rfl) (by decide) (fun c => ?_) (fun c => ?_)
              · have k := k.2 c
                refine Ev.goto (tgt := 39) (am_dt kX10_readsAll 93 rfl) (by decide) ?_
                exact Ev.sub [1] rfl k
              · have k := k.1 c
                refine Ev.iconst (v := 0) (am_dt kX10_readsAll 91 rfl) (by decide) ?_
                exact Ev.iret .boolean (am_dt kX10_readsAll 92 rfl) rfl rfl k
          · have k := k.2 c
            refine Ev.aload_n 0 (am_dt kX10_readsAll 58 rfl) rfl rfl ?_
            obtain ⟨f45, k⟩ := k
            refine Ev.callV (ci := 10) (v := mX10_readsSide) (As := []) (st := []) okX10_readsSide wd_687 wd_688 wd_689 (am_dt kX10_readsAll 59 rfl) (by decide) rfl rfl (Nat.le_of_ble_eq_true rfl) (Nat.le_of_ble_eq_true rfl) f45.1 ?_
            refine EvM.mono k (fun r47 h46 k => ?_)
            obtain ⟨v48, rfl, k⟩ := k
            show Ev w _ _ _ 122 _ [.int v48] _ _
            refine Ev.goto (tgt := 186) (am_dt kX10_readsAll 60 rfl) (by decide) ?_
            refine Ev.istore_n (lv' := [(1, .int v48), (0, .ref a0)]) (am_dt kX10_readsAll 88 rfl) rfl (by decide) rfl ?_
            refine Ev.iload_n 0 (am_dt kX10_readsAll 89 rfl) rfl rfl ?_
            refine Ev.if_ne (tgt := 193) (am_dt kX10_readsAll 90 rfl) (by decide) (fun c => ?_) (fun c => ?_)
            · have k := k.2 c
              refine Ev.goto (tgt := 39) (am_dt kX10_readsAll 93 rfl) (by decide) ?_
              exact Ev.sub [1] rfl k
            · have k := k.1 c
              refine Ev.iconst (v := 0) (am_dt kX10_readsAll 91 rfl) (by decide) ?_
              exact Ev.iret .boolean (am_dt kX10_readsAll 92 rfl) rfl rfl k
        · have k := k.2 c
          refine Ev.aload_n 0 (am_dt kX10_readsAll 48 rfl) rfl rfl ?_
          refine Ev.iconst (v := 2) (am_dt kX10_readsAll 49 rfl) (by decide) ?_
          refine Ev.iconst (v := 1) (am_dt kX10_readsAll 50 rfl) (by decide) ?_
          refine Ev.iconst (v := 2) (am_dt kX10_readsAll 51 rfl) (by decide) ?_
          obtain ⟨f49, k⟩ := k
          refine Ev.callV (ci := 10) (v := mX10_readsOne) (As := [.int 2, .int 1, .int 2]) (st := []) okX10_readsOne wd_684 wd_685 wd_686 (am_dt kX10_readsAll 52 rfl) (by decide) rfl rfl (Nat.le_of_ble_eq_true rfl) (Nat.le_of_ble_eq_true rfl) f49.1 ?_
          refine EvM.mono k (fun r51 h50 k => ?_)
          obtain ⟨v52, rfl, k⟩ := k
          show Ev w _ _ _ 105 _ [.int v52] _ _
          refine Ev.goto (tgt := 186) (am_dt kX10_readsAll 53 rfl) (by decide) ?_
          refine Ev.istore_n (lv' := [(1, .int v52), (0, .ref a0)]) (am_dt kX10_readsAll 88 rfl) rfl (by decide) rfl ?_
          refine Ev.iload_n 0 (am_dt kX10_readsAll 89 rfl) rfl rfl ?_
          refine Ev.if_ne (tgt := 193) (am_dt kX10_readsAll 90 rfl) (by decide) (fun c => ?_) (fun c => ?_)
          · have k := k.2 c
            refine Ev.goto (tgt := 39) (am_dt kX10_readsAll 93 rfl) (by decide) ?_
            exact Ev.sub [1] rfl k
          · have k := k.1 c
            refine Ev.iconst (v := 0) (am_dt kX10_readsAll 91 rfl) (by decide) ?_
            exact Ev.iret .boolean (am_dt kX10_readsAll 92 rfl) rfl rfl k
      · have k := k.2 c
        refine Ev.aload_n 0 (am_dt kX10_readsAll 38 rfl) rfl rfl ?_
        refine Ev.iconst (v := 1) (am_dt kX10_readsAll 39 rfl) (by decide) ?_
        refine Ev.iconst (v := 0) (am_dt kX10_readsAll 40 rfl) (by decide) ?_
        refine Ev.bipush (v := 99) (am_dt kX10_readsAll 41 rfl) (by decide) ?_
        obtain ⟨f53, k⟩ := k
        refine Ev.callV (ci := 10) (v := mX10_readsOne) (As := [.int 1, .int 0, .int 99]) (st := []) okX10_readsOne wd_684 wd_685 wd_686 (am_dt kX10_readsAll 42 rfl) (by decide) rfl rfl (Nat.le_of_ble_eq_true rfl) (Nat.le_of_ble_eq_true rfl) f53.1 ?_
        refine EvM.mono k (fun r55 h54 k => ?_)
        obtain ⟨v56, rfl, k⟩ := k
        show Ev w _ _ _ 85 _ [.int v56] _ _
        refine Ev.goto (tgt := 186) (am_dt kX10_readsAll 43 rfl) (by decide) ?_
        refine Ev.istore_n (lv' := [(1, .int v56), (0, .ref a0)]) (am_dt kX10_readsAll 88 rfl) rfl (by decide) rfl ?_
        refine Ev.iload_n 0 (am_dt kX10_readsAll 89 rfl) rfl rfl ?_
        refine Ev.if_ne (tgt := 193) (am_dt kX10_readsAll 90 rfl) (by decide) (fun c => ?_) (fun c => ?_)
        · have k := k.2 c
          refine Ev.goto (tgt := 39) (am_dt kX10_readsAll 93 rfl) (by decide) ?_
          exact Ev.sub [1] rfl k
        · have k := k.1 c
          refine Ev.iconst (v := 0) (am_dt kX10_readsAll 91 rfl) (by decide) ?_
          exact Ev.iret .boolean (am_dt kX10_readsAll 92 rfl) rfl rfl k
    · have k := k.2 c
      refine Ev.aload_n 0 (am_dt kX10_readsAll 28 rfl) rfl rfl ?_
      refine Ev.iconst (v := 0) (am_dt kX10_readsAll 29 rfl) (by decide) ?_
      refine Ev.iconst (v := 1) (am_dt kX10_readsAll 30 rfl) (by decide) ?_
      refine Ev.bipush (v := 40) (am_dt kX10_readsAll 31 rfl) (by decide) ?_
      obtain ⟨f57, k⟩ := k
      refine Ev.callV (ci := 10) (v := mX10_readsOne) (As := [.int 0, .int 1, .int 40]) (st := []) okX10_readsOne wd_684 wd_685 wd_686 (am_dt kX10_readsAll 32 rfl) (by decide) rfl rfl (Nat.le_of_ble_eq_true rfl) (Nat.le_of_ble_eq_true rfl) f57.1 ?_
      refine EvM.mono k (fun r59 h58 k => ?_)
      obtain ⟨v60, rfl, k⟩ := k
      show Ev w _ _ _ 64 _ [.int v60] _ _
      refine Ev.goto (tgt := 186) (am_dt kX10_readsAll 33 rfl) (by decide) ?_
      refine Ev.istore_n (lv' := [(1, .int v60), (0, .ref a0)]) (am_dt kX10_readsAll 88 rfl) rfl (by decide) rfl ?_
      refine Ev.iload_n 0 (am_dt kX10_readsAll 89 rfl) rfl rfl ?_
      refine Ev.if_ne (tgt := 193) (am_dt kX10_readsAll 90 rfl) (by decide) (fun c => ?_) (fun c => ?_)
      · have k := k.2 c
        refine Ev.goto (tgt := 39) (am_dt kX10_readsAll 93 rfl) (by decide) ?_
        exact Ev.sub [1] rfl k
      · have k := k.1 c
        refine Ev.iconst (v := 0) (am_dt kX10_readsAll 91 rfl) (by decide) ?_
        exact Ev.iret .boolean (am_dt kX10_readsAll 92 rfl) rfl rfl k
set_option maxRecDepth 20000 in
set_option maxHeartbeats 2000000 in
theorem bX10_moves_0 {w : am_W} {d : Nat} {h : am_H} {Q : Option Value → am_H → Prop} {a0 : Nat} {x1 : Int32} {x2 : Int32} {x3 : Int32}  (k : Ev w (am_Z w) mX10_moves d 3 [(0, .ref a0), (1, .int x1), (2, .int x2), (3, .int x3), (4, .int 0)] [] h Q) : EvM w mX10_moves d [.ref a0, .int x1, .int x2, .int x3] h Q := by
  show Ev w (am_Z w) mX10_moves d 0 [(0, .ref a0), (1, .int x1), (2, .int x2), (3, .int x3)] [] h Q
  refine Ev.iconst (v := 0) (am_dt kX10_moves 0 rfl) (by decide) ?_
  refine Ev.istore (lv' := [(4, .int 0), (0, .ref a0), (1, .int x1), (2, .int x2), (3, .int x3)]) (am_dt kX10_moves 1 rfl) (by decide) rfl ?_
  exact Ev.sub [1, 2, 3, 4, 0] rfl k
set_option maxRecDepth 20000 in
set_option maxHeartbeats 2000000 in
theorem bX10_moves_3 {w : am_W} {d : Nat} {h : am_H} {Q : Option Value → am_H → Prop} {a0 : Nat} {x1 : Int32} {x2 : Int32} {x3 : Int32} {x4 : Int32}  (k : (x1 ≤ x4 → (Q none h)) ∧ (¬ x1 ≤ x4 → ((hK h a0 = 12) ∧ ((vp_in ((x1 * x2) + x4) (hN h a0)) ∧ ((vp_in ((x1 * x3) + x4) (hN h a0)) ∧ (∀ h4 : am_H, h4 = sI h a0 (Int32.toNatClampNeg ((x1 * x3) + x4)) (hI h a0 (Int32.toNatClampNeg ((x1 * x2) + x4))) → (Ev w (am_Z w) mX10_moves d 3 [(0, .ref a0), (1, .int x1), (2, .int x2), (3, .int x3), (4, .int (x4 + 1))] [] h4 Q))))))) : Ev w (am_Z w) mX10_moves d 3 [(0, .ref a0), (1, .int x1), (2, .int x2), (3, .int x3), (4, .int x4)] [] h Q := by
  refine Ev.iload 4 (am_dt kX10_moves 2 rfl) rfl ?_
  refine Ev.iload_n 1 (am_dt kX10_moves 3 rfl) rfl rfl ?_
  refine Ev.icmp_ge (tgt := 31) (am_dt kX10_moves 4 rfl) (by decide) (fun c => ?_) (fun c => ?_)
  · have k := k.1 c
    exact Ev.vret (am_dt kX10_moves 21 rfl) rfl k
  · have k := k.2 c
    refine Ev.aload_n 0 (am_dt kX10_moves 5 rfl) rfl rfl ?_
    refine Ev.iload_n 1 (am_dt kX10_moves 6 rfl) rfl rfl ?_
    refine Ev.iload_n 3 (am_dt kX10_moves 7 rfl) rfl rfl ?_
    refine Ev.imul (am_dt kX10_moves 8 rfl) ?_
    refine Ev.iload 4 (am_dt kX10_moves 9 rfl) rfl ?_
    refine Ev.iadd (am_dt kX10_moves 10 rfl) ?_
    refine Ev.aload_n 0 (am_dt kX10_moves 11 rfl) rfl rfl ?_
    refine Ev.iload_n 1 (am_dt kX10_moves 12 rfl) rfl rfl ?_
    refine Ev.iload_n 2 (am_dt kX10_moves 13 rfl) rfl rfl ?_
    refine Ev.imul (am_dt kX10_moves 14 rfl) ?_
    refine Ev.iload 4 (am_dt kX10_moves 15 rfl) rfl ?_
    refine Ev.iadd (am_dt kX10_moves 16 rfl) ?_
    obtain ⟨f1, k⟩ := k
    obtain ⟨f2, k⟩ := k
    refine Ev.iald (am_dt kX10_moves 17 rfl) f1 f2 ?_
    obtain ⟨f3, k⟩ := k
    refine Ev.iast' (am_dt kX10_moves 18 rfl) f1 f3 (fun h4 eh4 => ?_)
    have k := k h4 eh4
    have f1 := kI eh4 f1
    refine Ev.iinc (v := x4 + 1) (lv' := [(4, .int (x4 + 1)), (0, .ref a0), (1, .int x1), (2, .int x2), (3, .int x3)]) 4 (am_dt kX10_moves 19 rfl) rfl rfl (by decide) rfl ?_
    refine Ev.goto (tgt := 3) (am_dt kX10_moves 20 rfl) (by decide) ?_
    exact Ev.sub [1, 2, 3, 4, 0] rfl k
set_option maxRecDepth 20000 in
set_option maxHeartbeats 2000000 in
theorem bX10_lays_0 {w : am_W} {d : Nat} {h : am_H} {Q : Option Value → am_H → Prop} {a0 : Nat} {x1 : Int32} {x2 : Int32}  (k : (am_L 10 a0 h) ∧ (EvM w mX10_moves d [.ref (a0 + 2), .int 10, .int x1, .int x2] h (fun r3 h2 => r3 = none ∧ ((am_L 10 a0 h2) ∧ (EvM w mX10_moves d [.ref (a0 + 7), .int 16, .int x1, .int x2] h2 (fun r6 h5 => r6 = none ∧ ((am_L 10 a0 h5) ∧ (EvM w mX10_moves d [.ref (a0 + 8), .int 16, .int x1, .int x2] h5 (fun r9 h8 => r9 = none ∧ ((am_L 10 a0 h8) ∧ (EvM w mX10_moves d [.ref (a0 + 9), .int 16, .int x1, .int x2] h8 (fun r12 h11 => r12 = none ∧ ((am_L 10 a0 h11) ∧ (EvM w mX10_moves d [.ref (a0 + 10), .int 16, .int x1, .int x2] h11 (fun r15 h14 => r15 = none ∧ ((am_L 10 a0 h14) ∧ (EvM w mX10_moves d [.ref (a0 + 11), .int 16, .int x1, .int x2] h14 (fun r18 h17 => r18 = none ∧ ((am_L 10 a0 h17) ∧ (EvM w mX10_moves d [.ref (a0 + 12), .int 30, .int x1, .int x2] h17 (fun r21 h20 => r21 = none ∧ ((am_L 10 a0 h20) ∧ (EvM w mX10_moves d [.ref (a0 + 5), .int 1000, .int x1, .int x2] h20 (fun r24 h23 => r24 = none ∧ (Ev w (am_Z w) mX10_lays (d + 1) 91 [(0, .ref a0), (1, .int x1), (2, .int x2), (3, .int 0)] [] h23 Q))))))))))))))))))))))))) : EvM w mX10_lays (d + 1) [.ref a0, .int x1, .int x2] h Q := by
  show Ev w (am_Z w) mX10_lays (d + 1) 0 [(0, .ref a0), (1, .int x1), (2, .int x2)] [] h Q
  refine Ev.aload_n 0 (am_dt kX10_lays 0 rfl) rfl rfl ?_
  obtain ⟨f1, k⟩ := k
  refine Ev.getRe (ci := 10) (k := 10) (r := a0 + 2) (am_dt kX10_lays 1 rfl) (by decide) (by decide) rfl wd_543 f1.1 (am_L.r f1 1 rfl) (by omega) ?_
  refine Ev.bipush (v := 10) (am_dt kX10_lays 2 rfl) (by decide) ?_
  refine Ev.iload_n 1 (am_dt kX10_lays 3 rfl) rfl rfl ?_
  refine Ev.iload_n 2 (am_dt kX10_lays 4 rfl) rfl rfl ?_
  refine Ev.callS (v := mX10_moves) (As := [.ref (a0 + 2), .int 10, .int x1, .int x2]) (st := []) okX10_moves wd_691 wd_690 (am_dt kX10_lays 5 rfl) rfl rfl (Nat.le_of_ble_eq_true rfl) (Nat.le_of_ble_eq_true rfl) ?_
  refine EvM.mono k (fun r3 h2 k => ?_)
  obtain ⟨rfl, k⟩ := k
  show Ev w _ _ _ 11 _ [] _ _
  refine Ev.aload_n 0 (am_dt kX10_lays 6 rfl) rfl rfl ?_
  obtain ⟨f4, k⟩ := k
  refine Ev.getRe (ci := 10) (k := 15) (r := a0 + 7) (am_dt kX10_lays 7 rfl) (by decide) (by decide) rfl wd_548 f4.1 (am_L.r f4 6 rfl) (by omega) ?_
  refine Ev.bipush (v := 16) (am_dt kX10_lays 8 rfl) (by decide) ?_
  refine Ev.iload_n 1 (am_dt kX10_lays 9 rfl) rfl rfl ?_
  refine Ev.iload_n 2 (am_dt kX10_lays 10 rfl) rfl rfl ?_
  refine Ev.callS (v := mX10_moves) (As := [.ref (a0 + 7), .int 16, .int x1, .int x2]) (st := []) okX10_moves wd_691 wd_690 (am_dt kX10_lays 11 rfl) rfl rfl (Nat.le_of_ble_eq_true rfl) (Nat.le_of_ble_eq_true rfl) ?_
  refine EvM.mono k (fun r6 h5 k => ?_)
  obtain ⟨rfl, k⟩ := k
  show Ev w _ _ _ 22 _ [] _ _
  refine Ev.aload_n 0 (am_dt kX10_lays 12 rfl) rfl rfl ?_
  obtain ⟨f7, k⟩ := k
  refine Ev.getRe (ci := 10) (k := 16) (r := a0 + 8) (am_dt kX10_lays 13 rfl) (by decide) (by decide) rfl wd_549 f7.1 (am_L.r f7 7 rfl) (by omega) ?_
  refine Ev.bipush (v := 16) (am_dt kX10_lays 14 rfl) (by decide) ?_
  refine Ev.iload_n 1 (am_dt kX10_lays 15 rfl) rfl rfl ?_
  refine Ev.iload_n 2 (am_dt kX10_lays 16 rfl) rfl rfl ?_
  refine Ev.callS (v := mX10_moves) (As := [.ref (a0 + 8), .int 16, .int x1, .int x2]) (st := []) okX10_moves wd_691 wd_690 (am_dt kX10_lays 17 rfl) rfl rfl (Nat.le_of_ble_eq_true rfl) (Nat.le_of_ble_eq_true rfl) ?_
  refine EvM.mono k (fun r9 h8 k => ?_)
  obtain ⟨rfl, k⟩ := k
  show Ev w _ _ _ 33 _ [] _ _
  refine Ev.aload_n 0 (am_dt kX10_lays 18 rfl) rfl rfl ?_
  obtain ⟨f10, k⟩ := k
  refine Ev.getRe (ci := 10) (k := 17) (r := a0 + 9) (am_dt kX10_lays 19 rfl) (by decide) (by decide) rfl wd_550 f10.1 (am_L.r f10 8 rfl) (by omega) ?_
  refine Ev.bipush (v := 16) (am_dt kX10_lays 20 rfl) (by decide) ?_
  refine Ev.iload_n 1 (am_dt kX10_lays 21 rfl) rfl rfl ?_
  refine Ev.iload_n 2 (am_dt kX10_lays 22 rfl) rfl rfl ?_
  refine Ev.callS (v := mX10_moves) (As := [.ref (a0 + 9), .int 16, .int x1, .int x2]) (st := []) okX10_moves wd_691 wd_690 (am_dt kX10_lays 23 rfl) rfl rfl (Nat.le_of_ble_eq_true rfl) (Nat.le_of_ble_eq_true rfl) ?_
  refine EvM.mono k (fun r12 h11 k => ?_)
  obtain ⟨rfl, k⟩ := k
  show Ev w _ _ _ 44 _ [] _ _
  refine Ev.aload_n 0 (am_dt kX10_lays 24 rfl) rfl rfl ?_
  obtain ⟨f13, k⟩ := k
  refine Ev.getRe (ci := 10) (k := 18) (r := a0 + 10) (am_dt kX10_lays 25 rfl) (by decide) (by decide) rfl wd_551 f13.1 (am_L.r f13 9 rfl) (by omega) ?_
  refine Ev.bipush (v := 16) (am_dt kX10_lays 26 rfl) (by decide) ?_
  refine Ev.iload_n 1 (am_dt kX10_lays 27 rfl) rfl rfl ?_
  refine Ev.iload_n 2 (am_dt kX10_lays 28 rfl) rfl rfl ?_
  refine Ev.callS (v := mX10_moves) (As := [.ref (a0 + 10), .int 16, .int x1, .int x2]) (st := []) okX10_moves wd_691 wd_690 (am_dt kX10_lays 29 rfl) rfl rfl (Nat.le_of_ble_eq_true rfl) (Nat.le_of_ble_eq_true rfl) ?_
  refine EvM.mono k (fun r15 h14 k => ?_)
  obtain ⟨rfl, k⟩ := k
  show Ev w _ _ _ 55 _ [] _ _
  refine Ev.aload_n 0 (am_dt kX10_lays 30 rfl) rfl rfl ?_
  obtain ⟨f16, k⟩ := k
  refine Ev.getRe (ci := 10) (k := 19) (r := a0 + 11) (am_dt kX10_lays 31 rfl) (by decide) (by decide) rfl wd_552 f16.1 (am_L.r f16 10 rfl) (by omega) ?_
  refine Ev.bipush (v := 16) (am_dt kX10_lays 32 rfl) (by decide) ?_
  refine Ev.iload_n 1 (am_dt kX10_lays 33 rfl) rfl rfl ?_
  refine Ev.iload_n 2 (am_dt kX10_lays 34 rfl) rfl rfl ?_
  refine Ev.callS (v := mX10_moves) (As := [.ref (a0 + 11), .int 16, .int x1, .int x2]) (st := []) okX10_moves wd_691 wd_690 (am_dt kX10_lays 35 rfl) rfl rfl (Nat.le_of_ble_eq_true rfl) (Nat.le_of_ble_eq_true rfl) ?_
  refine EvM.mono k (fun r18 h17 k => ?_)
  obtain ⟨rfl, k⟩ := k
  show Ev w _ _ _ 66 _ [] _ _
  refine Ev.aload_n 0 (am_dt kX10_lays 36 rfl) rfl rfl ?_
  obtain ⟨f19, k⟩ := k
  refine Ev.getRe (ci := 10) (k := 20) (r := a0 + 12) (am_dt kX10_lays 37 rfl) (by decide) (by decide) rfl wd_553 f19.1 (am_L.r f19 11 rfl) (by omega) ?_
  refine Ev.bipush (v := 30) (am_dt kX10_lays 38 rfl) (by decide) ?_
  refine Ev.iload_n 1 (am_dt kX10_lays 39 rfl) rfl rfl ?_
  refine Ev.iload_n 2 (am_dt kX10_lays 40 rfl) rfl rfl ?_
  refine Ev.callS (v := mX10_moves) (As := [.ref (a0 + 12), .int 30, .int x1, .int x2]) (st := []) okX10_moves wd_691 wd_690 (am_dt kX10_lays 41 rfl) rfl rfl (Nat.le_of_ble_eq_true rfl) (Nat.le_of_ble_eq_true rfl) ?_
  refine EvM.mono k (fun r21 h20 k => ?_)
  obtain ⟨rfl, k⟩ := k
  show Ev w _ _ _ 77 _ [] _ _
  refine Ev.aload_n 0 (am_dt kX10_lays 42 rfl) rfl rfl ?_
  obtain ⟨f22, k⟩ := k
  refine Ev.getRe (ci := 10) (k := 13) (r := a0 + 5) (am_dt kX10_lays 43 rfl) (by decide) (by decide) rfl wd_546 f22.1 (am_L.r f22 4 rfl) (by omega) ?_
  refine Ev.sipush (v := 1000) (am_dt kX10_lays 44 rfl) (by decide) ?_
  refine Ev.iload_n 1 (am_dt kX10_lays 45 rfl) rfl rfl ?_
  refine Ev.iload_n 2 (am_dt kX10_lays 46 rfl) rfl rfl ?_
  refine Ev.callS (v := mX10_moves) (As := [.ref (a0 + 5), .int 1000, .int x1, .int x2]) (st := []) okX10_moves wd_691 wd_690 (am_dt kX10_lays 47 rfl) rfl rfl (Nat.le_of_ble_eq_true rfl) (Nat.le_of_ble_eq_true rfl) ?_
  refine EvM.mono k (fun r24 h23 k => ?_)
  obtain ⟨rfl, k⟩ := k
  show Ev w _ _ _ 89 _ [] _ _
  refine Ev.iconst (v := 0) (am_dt kX10_lays 48 rfl) (by decide) ?_
  refine Ev.istore_n (lv' := [(3, .int 0), (0, .ref a0), (1, .int x1), (2, .int x2)]) (am_dt kX10_lays 49 rfl) rfl (by decide) rfl ?_
  exact Ev.sub [1, 2, 3, 0] rfl k
set_option maxRecDepth 20000 in
set_option maxHeartbeats 2000000 in
theorem bX10_lays_91 {w : am_W} {d : Nat} {h : am_H} {Q : Option Value → am_H → Prop} {a0 : Nat} {x1 : Int32} {x2 : Int32} {x3 : Int32}  (k : (4 ≤ x3 → (Q none h)) ∧ (¬ 4 ≤ x3 → ((am_L 10 a0 h) ∧ ((vp_in ((4 * x1) + x3) (hN h (a0 + 3))) ∧ ((vp_in ((4 * x2) + x3) (hN h (a0 + 3))) ∧ (∀ h4 : am_H, h4 = sI h (a0 + 3) (Int32.toNatClampNeg ((4 * x2) + x3)) ((hI h (a0 + 3) (Int32.toNatClampNeg ((4 * x1) + x3))) + (1000 * (x2 - x1))) → ((vp_in ((4 * x1) + x3) (hN h4 (a0 + 4))) ∧ ((vp_in ((4 * x2) + x3) (hN h4 (a0 + 4))) ∧ (∀ h7 : am_H, h7 = sI h4 (a0 + 4) (Int32.toNatClampNeg ((4 * x2) + x3)) ((hI h4 (a0 + 4) (Int32.toNatClampNeg ((4 * x1) + x3))) + (1000 * (x2 - x1))) → (Ev w (am_Z w) mX10_lays (d + 1) 91 [(0, .ref a0), (1, .int x1), (2, .int x2), (3, .int (x3 + 1))] [] h7 Q)))))))))) : Ev w (am_Z w) mX10_lays (d + 1) 91 [(0, .ref a0), (1, .int x1), (2, .int x2), (3, .int x3)] [] h Q := by
  refine Ev.iload_n 3 (am_dt kX10_lays 50 rfl) rfl rfl ?_
  refine Ev.iconst (v := 4) (am_dt kX10_lays 51 rfl) (by decide) ?_
  refine Ev.icmp_ge (tgt := 158) (am_dt kX10_lays 52 rfl) (by decide) (fun c => ?_) (fun c => ?_)
  · have k := k.1 c
    exact Ev.vret (am_dt kX10_lays 99 rfl) rfl k
  · have k := k.2 c
    refine Ev.aload_n 0 (am_dt kX10_lays 53 rfl) rfl rfl ?_
    obtain ⟨f1, k⟩ := k
    refine Ev.getRe (ci := 10) (k := 11) (r := a0 + 3) (am_dt kX10_lays 54 rfl) (by decide) (by decide) rfl wd_544 f1.1 (am_L.r f1 2 rfl) (by omega) ?_
    refine Ev.iconst (v := 4) (am_dt kX10_lays 55 rfl) (by decide) ?_
    refine Ev.iload_n 2 (am_dt kX10_lays 56 rfl) rfl rfl ?_
    refine Ev.imul (am_dt kX10_lays 57 rfl) ?_
    refine Ev.iload_n 3 (am_dt kX10_lays 58 rfl) rfl rfl ?_
    refine Ev.iadd (am_dt kX10_lays 59 rfl) ?_
    refine Ev.aload_n 0 (am_dt kX10_lays 60 rfl) rfl rfl ?_
    refine Ev.getRe (ci := 10) (k := 11) (r := a0 + 3) (am_dt kX10_lays 61 rfl) (by decide) (by decide) rfl wd_544 f1.1 (am_L.r f1 2 rfl) (by omega) ?_
    refine Ev.iconst (v := 4) (am_dt kX10_lays 62 rfl) (by decide) ?_
    refine Ev.iload_n 1 (am_dt kX10_lays 63 rfl) rfl rfl ?_
    refine Ev.imul (am_dt kX10_lays 64 rfl) ?_
    refine Ev.iload_n 3 (am_dt kX10_lays 65 rfl) rfl rfl ?_
    refine Ev.iadd (am_dt kX10_lays 66 rfl) ?_
    obtain ⟨f2, k⟩ := k
    refine Ev.iald (am_dt kX10_lays 67 rfl) (am_L.s f1 2 rfl) f2 ?_
    refine Ev.sipush (v := 1000) (am_dt kX10_lays 68 rfl) (by decide) ?_
    refine Ev.iload_n 2 (am_dt kX10_lays 69 rfl) rfl rfl ?_
    refine Ev.iload_n 1 (am_dt kX10_lays 70 rfl) rfl rfl ?_
    refine Ev.isub (am_dt kX10_lays 71 rfl) ?_
    refine Ev.imul (am_dt kX10_lays 72 rfl) ?_
    refine Ev.iadd (am_dt kX10_lays 73 rfl) ?_
    obtain ⟨f3, k⟩ := k
    refine Ev.iast' (am_dt kX10_lays 74 rfl) (am_L.s f1 2 rfl) f3 (fun h4 eh4 => ?_)
    have k := k h4 eh4
    have f1 := am_LsI eh4 f1
    refine Ev.aload_n 0 (am_dt kX10_lays 75 rfl) rfl rfl ?_
    refine Ev.getRe (ci := 10) (k := 12) (r := a0 + 4) (am_dt kX10_lays 76 rfl) (by decide) (by decide) rfl wd_545 f1.1 (am_L.r f1 3 rfl) (by omega) ?_
    refine Ev.iconst (v := 4) (am_dt kX10_lays 77 rfl) (by decide) ?_
    refine Ev.iload_n 2 (am_dt kX10_lays 78 rfl) rfl rfl ?_
    refine Ev.imul (am_dt kX10_lays 79 rfl) ?_
    refine Ev.iload_n 3 (am_dt kX10_lays 80 rfl) rfl rfl ?_
    refine Ev.iadd (am_dt kX10_lays 81 rfl) ?_
    refine Ev.aload_n 0 (am_dt kX10_lays 82 rfl) rfl rfl ?_
    refine Ev.getRe (ci := 10) (k := 12) (r := a0 + 4) (am_dt kX10_lays 83 rfl) (by decide) (by decide) rfl wd_545 f1.1 (am_L.r f1 3 rfl) (by omega) ?_
    refine Ev.iconst (v := 4) (am_dt kX10_lays 84 rfl) (by decide) ?_
    refine Ev.iload_n 1 (am_dt kX10_lays 85 rfl) rfl rfl ?_
    refine Ev.imul (am_dt kX10_lays 86 rfl) ?_
    refine Ev.iload_n 3 (am_dt kX10_lays 87 rfl) rfl rfl ?_
    refine Ev.iadd (am_dt kX10_lays 88 rfl) ?_
    obtain ⟨f5, k⟩ := k
    refine Ev.iald (am_dt kX10_lays 89 rfl) (am_L.s f1 3 rfl) f5 ?_
    refine Ev.sipush (v := 1000) (am_dt kX10_lays 90 rfl) (by decide) ?_
    refine Ev.iload_n 2 (am_dt kX10_lays 91 rfl) rfl rfl ?_
    refine Ev.iload_n 1 (am_dt kX10_lays 92 rfl) rfl rfl ?_
    refine Ev.isub (am_dt kX10_lays 93 rfl) ?_
    refine Ev.imul (am_dt kX10_lays 94 rfl) ?_
    refine Ev.iadd (am_dt kX10_lays 95 rfl) ?_
    obtain ⟨f6, k⟩ := k
    refine Ev.iast' (am_dt kX10_lays 96 rfl) (am_L.s f1 3 rfl) f6 (fun h7 eh7 => ?_)
    have k := k h7 eh7
    have f1 := am_LsI eh7 f1
    refine Ev.iinc (v := x3 + 1) (lv' := [(3, .int (x3 + 1)), (0, .ref a0), (1, .int x1), (2, .int x2)]) 3 (am_dt kX10_lays 97 rfl) rfl rfl (by decide) rfl ?_
    refine Ev.goto (tgt := 91) (am_dt kX10_lays 98 rfl) (by decide) ?_
    exact Ev.sub [1, 2, 3, 0] rfl k
set_option maxRecDepth 20000 in
set_option maxHeartbeats 2000000 in
theorem bX10_river_0 {w : am_W} {d : Nat} {h : am_H} {Q : Option Value → am_H → Prop} {a0 : Nat}  (k : (am_L 10 a0 h) ∧ (∀ h2 : am_H, h2 = sI h a0 0 0 → (EvM w mX10_readsAll d [.ref a0] h2 (fun r4 h3 => ∃ v5 : Int32, r4 = some (.int v5) ∧ ((v5 = 0 → ((am_L 10 a0 h3) ∧ (Q (some (.int (hI h3 a0 9))) h3))) ∧ (¬ v5 = 0 → ((am_L 10 a0 h3) ∧ (EvM w mX10_lays d [.ref a0, .int 1, .int 0] h3 (fun r9 h8 => r9 = none ∧ ((am_L 10 a0 h8) ∧ ((vp_in 6 (hN h8 (a0 + 2))) ∧ (((hI h8 (a0 + 2) (Int32.toNatClampNeg 6)) ≤ 0 → ((vp_in 8 (hN h8 (a0 + 2))) ∧ (∀ h13 : am_H, h13 = sI h8 (a0 + 2) (Int32.toNatClampNeg 8) ((-1)) → (Q (some (.int 0)) h13)))) ∧ (¬ (hI h8 (a0 + 2) (Int32.toNatClampNeg 6)) ≤ 0 → ((vp_in 8 (hN h8 (a0 + 2))) ∧ (∀ h15 : am_H, h15 = sI h8 (a0 + 2) (Int32.toNatClampNeg 8) 0 → (Q (some (.int 0)) h15)))))))))))))))) : EvM w mX10_river (d + 1) [.ref a0] h Q := by
  show Ev w (am_Z w) mX10_river (d + 1) 0 [(0, .ref a0)] [] h Q
  refine Ev.aload_n 0 (am_dt kX10_river 0 rfl) rfl rfl ?_
  refine Ev.iconst (v := 0) (am_dt kX10_river 1 rfl) (by decide) ?_
  obtain ⟨f1, k⟩ := k
  refine Ev.putI' (ci := 10) (k := 0) (am_dt kX10_river 2 rfl) (by decide) (by decide) wd_583 rfl rfl rfl rfl f1.1 (fun h2 eh2 => ?_)
  have k := k h2 eh2
  have f1 := am_LsI eh2 f1
  refine Ev.aload_n 0 (am_dt kX10_river 3 rfl) rfl rfl ?_
  refine Ev.callV (ci := 10) (v := mX10_readsAll) (As := []) (st := []) okX10_readsAll wd_692 wd_693 wd_694 (am_dt kX10_river 4 rfl) (by decide) rfl rfl (Nat.le_of_ble_eq_true rfl) (Nat.le_of_ble_eq_true rfl) f1.1 ?_
  refine EvM.mono k (fun r4 h3 k => ?_)
  obtain ⟨v5, rfl, k⟩ := k
  show Ev w _ _ _ 9 _ [.int v5] _ _
  refine Ev.if_ne (tgt := 17) (am_dt kX10_river 5 rfl) (by decide) (fun c => ?_) (fun c => ?_)
  · have k := k.2 c
    refine Ev.aload_n 0 (am_dt kX10_river 9 rfl) rfl rfl ?_
    refine Ev.iconst (v := 1) (am_dt kX10_river 10 rfl) (by decide) ?_
    refine Ev.iconst (v := 0) (am_dt kX10_river 11 rfl) (by decide) ?_
    obtain ⟨f7, k⟩ := k
    refine Ev.callV (ci := 10) (v := mX10_lays) (As := [.int 1, .int 0]) (st := []) okX10_lays wd_695 wd_696 wd_697 (am_dt kX10_river 12 rfl) (by decide) rfl rfl (Nat.le_of_ble_eq_true rfl) (Nat.le_of_ble_eq_true rfl) f7.1 ?_
    refine EvM.mono k (fun r9 h8 k => ?_)
    obtain ⟨rfl, k⟩ := k
    show Ev w _ _ _ 23 _ [] _ _
    refine Ev.aload_n 0 (am_dt kX10_river 13 rfl) rfl rfl ?_
    obtain ⟨f10, k⟩ := k
    refine Ev.getRe (ci := 10) (k := 10) (r := a0 + 2) (am_dt kX10_river 14 rfl) (by decide) (by decide) rfl wd_543 f10.1 (am_L.r f10 1 rfl) (by omega) ?_
    refine Ev.bipush (v := 8) (am_dt kX10_river 15 rfl) (by decide) ?_
    refine Ev.aload_n 0 (am_dt kX10_river 16 rfl) rfl rfl ?_
    refine Ev.getRe (ci := 10) (k := 10) (r := a0 + 2) (am_dt kX10_river 17 rfl) (by decide) (by decide) rfl wd_543 f10.1 (am_L.r f10 1 rfl) (by omega) ?_
    refine Ev.bipush (v := 6) (am_dt kX10_river 18 rfl) (by decide) ?_
    obtain ⟨f11, k⟩ := k
    refine Ev.iald (am_dt kX10_river 19 rfl) (am_L.s f10 1 rfl) f11 ?_
    refine Ev.if_le (tgt := 43) (am_dt kX10_river 20 rfl) (by decide) (fun c => ?_) (fun c => ?_)
    · have k := k.1 c
      refine Ev.iconst (v := (-1)) (am_dt kX10_river 23 rfl) (by decide) ?_
      obtain ⟨f12, k⟩ := k
      refine Ev.iast' (am_dt kX10_river 24 rfl) (am_L.s f10 1 rfl) f12 (fun h13 eh13 => ?_)
      have k := k h13 eh13
      have f10 := am_LsI eh13 f10
      refine Ev.iconst (v := 0) (am_dt kX10_river 25 rfl) (by decide) ?_
      exact Ev.iret .int (am_dt kX10_river 26 rfl) rfl rfl k
    · have k := k.2 c
      refine Ev.iconst (v := 0) (am_dt kX10_river 21 rfl) (by decide) ?_
      refine Ev.goto (tgt := 44) (am_dt kX10_river 22 rfl) (by decide) ?_
      obtain ⟨f14, k⟩ := k
      refine Ev.iast' (am_dt kX10_river 24 rfl) (am_L.s f10 1 rfl) f14 (fun h15 eh15 => ?_)
      have k := k h15 eh15
      have f10 := am_LsI eh15 f10
      refine Ev.iconst (v := 0) (am_dt kX10_river 25 rfl) (by decide) ?_
      exact Ev.iret .int (am_dt kX10_river 26 rfl) rfl rfl k
  · have k := k.1 c
    refine Ev.aload_n 0 (am_dt kX10_river 6 rfl) rfl rfl ?_
    obtain ⟨f6, k⟩ := k
    refine Ev.getI (ci := 10) (k := 9) (am_dt kX10_river 7 rfl) (by decide) (by decide) rfl wd_597 f6.1 ?_
    exact Ev.iret .int (am_dt kX10_river 8 rfl) rfl rfl k
set_option maxRecDepth 20000 in
set_option maxHeartbeats 2000000 in
theorem bX10_isPerson_0 {w : am_W} {d : Nat} {h : am_H} {Q : Option Value → am_H → Prop} {a0 : Nat} {x1 : Int32}  (k : (x1 < 0 → (Q (some (.int 0)) h)) ∧ (¬ x1 < 0 → ((am_L 10 a0 h) ∧ ((vp_in 7 (hN h (a0 + 2))) ∧ (((hI h (a0 + 2) (Int32.toNatClampNeg 7)) ≤ x1 → (Q (some (.int 0)) h)) ∧ (¬ (hI h (a0 + 2) (Int32.toNatClampNeg 7)) ≤ x1 → (Q (some (.int 1)) h))))))) : EvM w mX10_isPerson d [.ref a0, .int x1] h Q := by
  show Ev w (am_Z w) mX10_isPerson d 0 [(0, .ref a0), (1, .int x1)] [] h Q
  refine Ev.iload_n 1 (am_dt kX10_isPerson 0 rfl) rfl rfl ?_
  refine Ev.if_lt (tgt := 19) (am_dt kX10_isPerson 1 rfl) (by decide) (fun c => ?_) (fun c => ?_)
  · have k := k.1 c
    refine Ev.iconst (v := 0) (am_dt kX10_isPerson 10 rfl) (by decide) ?_
    exact Ev.iret .boolean (am_dt kX10_isPerson 11 rfl) rfl rfl k
  · have k := k.2 c
    refine Ev.iload_n 1 (am_dt kX10_isPerson 2 rfl) rfl rfl ?_
    refine Ev.aload_n 0 (am_dt kX10_isPerson 3 rfl) rfl rfl ?_
    obtain ⟨f1, k⟩ := k
    refine Ev.getRe (ci := 10) (k := 10) (r := a0 + 2) (am_dt kX10_isPerson 4 rfl) (by decide) (by decide) rfl wd_543 f1.1 (am_L.r f1 1 rfl) (by omega) ?_
    refine Ev.bipush (v := 7) (am_dt kX10_isPerson 5 rfl) (by decide) ?_
    obtain ⟨f2, k⟩ := k
    refine Ev.iald (am_dt kX10_isPerson 6 rfl) (am_L.s f1 1 rfl) f2 ?_
    refine Ev.icmp_ge (tgt := 19) (am_dt kX10_isPerson 7 rfl) (by decide) (fun c => ?_) (fun c => ?_)
    · have k := k.1 c
      refine Ev.iconst (v := 0) (am_dt kX10_isPerson 10 rfl) (by decide) ?_
      exact Ev.iret .boolean (am_dt kX10_isPerson 11 rfl) rfl rfl k
    · have k := k.2 c
      refine Ev.iconst (v := 1) (am_dt kX10_isPerson 8 rfl) (by decide) ?_
      refine Ev.goto (tgt := 20) (am_dt kX10_isPerson 9 rfl) (by decide) ?_
      exact Ev.iret .boolean (am_dt kX10_isPerson 11 rfl) rfl rfl k
set_option maxRecDepth 20000 in
set_option maxHeartbeats 2000000 in
theorem bX10_isMinute_0 {w : am_W} {d : Nat} {h : am_H} {Q : Option Value → am_H → Prop} {x0 : Int32}  (k : (x0 < 0 → (Q (some (.int 0)) h)) ∧ (¬ x0 < 0 → ((1440 ≤ x0 → (Q (some (.int 0)) h)) ∧ (¬ 1440 ≤ x0 → (Q (some (.int 1)) h))))) : EvM w mX10_isMinute d [.int x0] h Q := by
  show Ev w (am_Z w) mX10_isMinute d 0 [(0, .int x0)] [] h Q
  refine Ev.iload_n 0 (am_dt kX10_isMinute 0 rfl) rfl rfl ?_
  refine Ev.if_lt (tgt := 15) (am_dt kX10_isMinute 1 rfl) (by decide) (fun c => ?_) (fun c => ?_)
  · have k := k.1 c
    refine Ev.iconst (v := 0) (am_dt kX10_isMinute 7 rfl) (by decide) ?_
    exact Ev.iret .boolean (am_dt kX10_isMinute 8 rfl) rfl rfl k
  · have k := k.2 c
    refine Ev.iload_n 0 (am_dt kX10_isMinute 2 rfl) rfl rfl ?_
    refine Ev.sipush (v := 1440) (am_dt kX10_isMinute 3 rfl) (by decide) ?_
    refine Ev.icmp_ge (tgt := 15) (am_dt kX10_isMinute 4 rfl) (by decide) (fun c => ?_) (fun c => ?_)
    · have k := k.1 c
      refine Ev.iconst (v := 0) (am_dt kX10_isMinute 7 rfl) (by decide) ?_
      exact Ev.iret .boolean (am_dt kX10_isMinute 8 rfl) rfl rfl k
    · have k := k.2 c
      refine Ev.iconst (v := 1) (am_dt kX10_isMinute 5 rfl) (by decide) ?_
      refine Ev.goto (tgt := 16) (am_dt kX10_isMinute 6 rfl) (by decide) ?_
      exact Ev.iret .boolean (am_dt kX10_isMinute 8 rfl) rfl rfl k
set_option maxRecDepth 20000 in
set_option maxHeartbeats 2000000 in
theorem bX10_countOf_0 {w : am_W} {d : Nat} {h : am_H} {Q : Option Value → am_H → Prop} {x0 : Int32}  (k : (x0 = 1 → (Q (some (.int 0)) h)) ∧ (¬ x0 = 1 → ((x0 = 2 → (Q (some (.int 1)) h)) ∧ (¬ x0 = 2 → ((x0 = 3 → (Q (some (.int 4)) h)) ∧ (¬ x0 = 3 → (Q (some (.int 2)) h))))))) : EvM w mX10_countOf d [.int x0] h Q := by
  show Ev w (am_Z w) mX10_countOf d 0 [(0, .int x0)] [] h Q
  refine Ev.iload_n 0 (am_dt kX10_countOf 0 rfl) rfl rfl ?_
  refine Ev.iconst (v := 1) (am_dt kX10_countOf 1 rfl) (by decide) ?_
  refine Ev.icmp_ne (tgt := 9) (am_dt kX10_countOf 2 rfl) (by decide) (fun c => ?_) (fun c => ?_)
  · have k := k.2 c
    refine Ev.iload_n 0 (am_dt kX10_countOf 5 rfl) rfl rfl ?_
    refine Ev.iconst (v := 2) (am_dt kX10_countOf 6 rfl) (by decide) ?_
    refine Ev.icmp_ne (tgt := 18) (am_dt kX10_countOf 7 rfl) (by decide) (fun c => ?_) (fun c => ?_)
    · have k := k.2 c
      refine Ev.iload_n 0 (am_dt kX10_countOf 10 rfl) rfl rfl ?_
      refine Ev.iconst (v := 3) (am_dt kX10_countOf 11 rfl) (by decide) ?_
      refine Ev.icmp_ne (tgt := 27) (am_dt kX10_countOf 12 rfl) (by decide) (fun c => ?_) (fun c => ?_)
      · have k := k.2 c
        refine Ev.iconst (v := 2) (am_dt kX10_countOf 15 rfl) (by decide) ?_
        exact Ev.iret .int (am_dt kX10_countOf 16 rfl) rfl rfl k
      · have k := k.1 c
        refine Ev.iconst (v := 4) (am_dt kX10_countOf 13 rfl) (by decide) ?_
        refine Ev.goto (tgt := 28) (am_dt kX10_countOf 14 rfl) (by decide) ?_
        exact Ev.iret .int (am_dt kX10_countOf 16 rfl) rfl rfl k
    · have k := k.1 c
      refine Ev.iconst (v := 1) (am_dt kX10_countOf 8 rfl) (by decide) ?_
      refine Ev.goto (tgt := 28) (am_dt kX10_countOf 9 rfl) (by decide) ?_
      exact Ev.iret .int (am_dt kX10_countOf 16 rfl) rfl rfl k
  · have k := k.1 c
    refine Ev.iconst (v := 0) (am_dt kX10_countOf 3 rfl) (by decide) ?_
    refine Ev.goto (tgt := 28) (am_dt kX10_countOf 4 rfl) (by decide) ?_
    exact Ev.iret .int (am_dt kX10_countOf 16 rfl) rfl rfl k
set_option maxRecDepth 20000 in
set_option maxHeartbeats 2000000 in
theorem bX10_person_0 {w : am_W} {d : Nat} {h : am_H} {Q : Option Value → am_H → Prop} {a0 : Nat} {x1 : Int32} {x2 : Int32}  (k : (am_L 10 a0 h) ∧ (∀ h2 : am_H, h2 = sI h a0 0 0 → (EvM w mX10_isPerson d [.ref a0, .int x1] h2 (fun r4 h3 => ∃ v5 : Int32, r4 = some (.int v5) ∧ ((v5 = 0 → (Q (some (.int ((-1)))) h3)) ∧ (¬ v5 = 0 → (EvM w mX10_within d [.int x2, .int 0, .int 5] h3 (fun r7 h6 => ∃ v8 : Int32, r7 = some (.int v8) ∧ ((v8 = 0 → (Q (some (.int ((-1)))) h6)) ∧ (¬ v8 = 0 → ((x2 = 0 → ((am_L 10 a0 h6) ∧ ((vp_in x1 (hN h6 (a0 + 7))) ∧ (Q (some (.int (hI h6 (a0 + 7) (Int32.toNatClampNeg x1)))) h6)))) ∧ (¬ x2 = 0 → ((x2 = 1 → ((am_L 10 a0 h6) ∧ ((vp_in x1 (hN h6 (a0 + 8))) ∧ (Q (some (.int (hI h6 (a0 + 8) (Int32.toNatClampNeg x1)))) h6)))) ∧ (¬ x2 = 1 → ((x2 = 2 → ((am_L 10 a0 h6) ∧ ((vp_in x1 (hN h6 (a0 + 9))) ∧ (Q (some (.int (hI h6 (a0 + 9) (Int32.toNatClampNeg x1)))) h6)))) ∧ (¬ x2 = 2 → ((x2 = 3 → ((am_L 10 a0 h6) ∧ ((vp_in x1 (hN h6 (a0 + 10))) ∧ (Q (some (.int (hI h6 (a0 + 10) (Int32.toNatClampNeg x1)))) h6)))) ∧ (¬ x2 = 3 → ((x2 = 4 → ((am_L 10 a0 h6) ∧ ((vp_in x1 (hN h6 (a0 + 11))) ∧ (Q (some (.int (hI h6 (a0 + 11) (Int32.toNatClampNeg x1)))) h6)))) ∧ (¬ x2 = 4 → ((am_L 10 a0 h6) ∧ ((vp_in x1 (hN h6 (a0 + 11))) ∧ (EvM w mX10_countOf d [.int (hI h6 (a0 + 11) (Int32.toNatClampNeg x1))] h6 (fun r22 h21 => ∃ v23 : Int32, r22 = some (.int v23) ∧ (Q (some (.int v23)) h21))))))))))))))))))))))))) : EvM w mX10_person (d + 1) [.ref a0, .int x1, .int x2] h Q := by
  show Ev w (am_Z w) mX10_person (d + 1) 0 [(0, .ref a0), (1, .int x1), (2, .int x2)] [] h Q
  refine Ev.aload_n 0 (am_dt kX10_person 0 rfl) rfl rfl ?_
  refine Ev.iconst (v := 0) (am_dt kX10_person 1 rfl) (by decide) ?_
  obtain ⟨f1, k⟩ := k
  refine Ev.putI' (ci := 10) (k := 0) (am_dt kX10_person 2 rfl) (by decide) (by decide) wd_583 rfl rfl rfl rfl f1.1 (fun h2 eh2 => ?_)
  have k := k h2 eh2
  have f1 := am_LsI eh2 f1
  refine Ev.aload_n 0 (am_dt kX10_person 3 rfl) rfl rfl ?_
  refine Ev.iload_n 1 (am_dt kX10_person 4 rfl) rfl rfl ?_
  refine Ev.callV (ci := 10) (v := mX10_isPerson) (As := [.int x1]) (st := []) okX10_isPerson wd_698 wd_699 wd_700 (am_dt kX10_person 5 rfl) (by decide) rfl rfl (Nat.le_of_ble_eq_true rfl) (Nat.le_of_ble_eq_true rfl) f1.1 ?_
  refine EvM.mono k (fun r4 h3 k => ?_)
  obtain ⟨v5, rfl, k⟩ := k
  show Ev w _ _ _ 10 _ [.int v5] _ _
  refine Ev.if_eq (tgt := 22) (am_dt kX10_person 6 rfl) (by decide) (fun c => ?_) (fun c => ?_)
  · have k := k.1 c
    refine Ev.iconst (v := (-1)) (am_dt kX10_person 12 rfl) (by decide) ?_
    exact Ev.iret .int (am_dt kX10_person 13 rfl) rfl rfl k
  · have k := k.2 c
    refine Ev.iload_n 2 (am_dt kX10_person 7 rfl) rfl rfl ?_
    refine Ev.iconst (v := 0) (am_dt kX10_person 8 rfl) (by decide) ?_
    refine Ev.iconst (v := 5) (am_dt kX10_person 9 rfl) (by decide) ?_
    refine Ev.callS (v := mX10_within) (As := [.int x2, .int 0, .int 5]) (st := []) okX10_within wd_653 wd_652 (am_dt kX10_person 10 rfl) rfl rfl (Nat.le_of_ble_eq_true rfl) (Nat.le_of_ble_eq_true rfl) ?_
    refine EvM.mono k (fun r7 h6 k => ?_)
    obtain ⟨v8, rfl, k⟩ := k
    show Ev w _ _ _ 19 _ [.int v8] _ _
    refine Ev.if_ne (tgt := 24) (am_dt kX10_person 11 rfl) (by decide) (fun c => ?_) (fun c => ?_)
    · have k := k.2 c
      refine Ev.iload_n 2 (am_dt kX10_person 14 rfl) rfl rfl ?_
      refine Ev.if_ne (tgt := 37) (am_dt kX10_person 15 rfl) (by decide) (fun c => ?_) (fun c => ?_)
      · have k := k.2 c
        refine Ev.iload_n 2 (am_dt kX10_person 21 rfl) rfl rfl ?_
        refine Ev.iconst (v := 1) (am_dt kX10_person 22 rfl) (by decide) ?_
        refine Ev.icmp_ne (tgt := 51) (am_dt kX10_person 23 rfl) (by decide) (fun c => ?_) (fun c => ?_)
        · have k := k.2 c
          refine Ev.iload_n 2 (am_dt kX10_person 29 rfl) rfl rfl ?_
          refine Ev.iconst (v := 2) (am_dt kX10_person 30 rfl) (by decide) ?_
          refine Ev.icmp_ne (tgt := 65) (am_dt kX10_person 31 rfl) (by decide) (fun c => ?_) (fun c => ?_)
          · have k := k.2 c
            refine Ev.iload_n 2 (am_dt kX10_person 37 rfl) rfl rfl ?_
            refine Ev.iconst (v := 3) (am_dt kX10_person 38 rfl) (by decide) ?_
            refine Ev.icmp_ne (tgt := 79) (am_dt kX10_person 39 rfl) (by decide) (fun c => ?_) (fun c => ?_)
            · have k := k.2 c
              refine Ev.iload_n 2 (am_dt kX10_person 45 rfl) rfl rfl ?_
              refine Ev.iconst (v := 4) (am_dt kX10_person 46 rfl) (by decide) ?_
              refine Ev.icmp_ne (tgt := 93) (am_dt kX10_person 47 rfl) (by decide) (fun c => ?_) (fun c => ?_)
              · have k := k.2 c
                refine Ev.aload_n 0 (am_dt kX10_person 53 rfl) rfl rfl ?_
                obtain ⟨f19, k⟩ := k
                refine Ev.getRe (ci := 10) (k := 19) (r := a0 + 11) (am_dt kX10_person 54 rfl) (by decide) (by decide) rfl wd_552 f19.1 (am_L.r f19 10 rfl) (by omega) ?_
                refine Ev.iload_n 1 (am_dt kX10_person 55 rfl) rfl rfl ?_
                obtain ⟨f20, k⟩ := k
                refine Ev.iald (am_dt kX10_person 56 rfl) (am_L.s f19 10 rfl) f20 ?_
                refine Ev.callS (v := mX10_countOf) (As := [.int (hI h6 (a0 + 11) (Int32.toNatClampNeg x1))]) (st := []) okX10_countOf wd_702 wd_701 (am_dt kX10_person 57 rfl) rfl rfl (Nat.le_of_ble_eq_true rfl) (Nat.le_of_ble_eq_true rfl) ?_
                refine EvM.mono k (fun r22 h21 k => ?_)
                obtain ⟨v23, rfl, k⟩ := k
                show Ev w _ _ _ 102 _ [.int v23] _ _
                exact Ev.iret .int (am_dt kX10_person 58 rfl) rfl rfl k
              · have k := k.1 c
                refine Ev.aload_n 0 (am_dt kX10_person 48 rfl) rfl rfl ?_
                obtain ⟨f17, k⟩ := k
                refine Ev.getRe (ci := 10) (k := 19) (r := a0 + 11) (am_dt kX10_person 49 rfl) (by decide) (by decide) rfl wd_552 f17.1 (am_L.r f17 10 rfl) (by omega) ?_
                refine Ev.iload_n 1 (am_dt kX10_person 50 rfl) rfl rfl ?_
                obtain ⟨f18, k⟩ := k
                refine Ev.iald (am_dt kX10_person 51 rfl) (am_L.s f17 10 rfl) f18 ?_
                refine Ev.goto (tgt := 102) (am_dt kX10_person 52 rfl) (by decide) ?_
                exact Ev.iret .int (am_dt kX10_person 58 rfl) rfl rfl k
            · have k := k.1 c
              refine Ev.aload_n 0 (am_dt kX10_person 40 rfl) rfl rfl ?_
              obtain ⟨f15, k⟩ := k
              refine Ev.getRe (ci := 10) (k := 18) (r := a0 + 10) (am_dt kX10_person 41 rfl) (by decide) (by decide) rfl wd_551 f15.1 (am_L.r f15 9 rfl) (by omega) ?_
              refine Ev.iload_n 1 (am_dt kX10_person 42 rfl) rfl rfl ?_
              obtain ⟨f16, k⟩ := k
              refine Ev.iald (am_dt kX10_person 43 rfl) (am_L.s f15 9 rfl) f16 ?_
              refine Ev.goto (tgt := 102) (am_dt kX10_person 44 rfl) (by decide) ?_
              exact Ev.iret .int (am_dt kX10_person 58 rfl) rfl rfl k
          · have k := k.1 c
            refine Ev.aload_n 0 (am_dt kX10_person 32 rfl) rfl rfl ?_
            obtain ⟨f13, k⟩ := k
            refine Ev.getRe (ci := 10) (k := 17) (r := a0 + 9) (am_dt kX10_person 33 rfl) (by decide) (by decide) rfl wd_550 f13.1 (am_L.r f13 8 rfl) (by omega) ?_
            refine Ev.iload_n 1 (am_dt kX10_person 34 rfl) rfl rfl ?_
            obtain ⟨f14, k⟩ := k
            refine Ev.iald (am_dt kX10_person 35 rfl) (am_L.s f13 8 rfl) f14 ?_
            refine Ev.goto (tgt := 102) (am_dt kX10_person 36 rfl) (by decide) ?_
            exact Ev.iret .int (am_dt kX10_person 58 rfl) rfl rfl k
        · have k := k.1 c
          refine Ev.aload_n 0 (am_dt kX10_person 24 rfl) rfl rfl ?_
          obtain ⟨f11, k⟩ := k
          refine Ev.getRe (ci := 10) (k := 16) (r := a0 + 8) (am_dt kX10_person 25 rfl) (by decide) (by decide) rfl wd_549 f11.1 (am_L.r f11 7 rfl) (by omega) ?_
          refine Ev.iload_n 1 (am_dt kX10_person 26 rfl) rfl rfl ?_
          obtain ⟨f12, k⟩ := k
          refine Ev.iald (am_dt kX10_person 27 rfl) (am_L.s f11 7 rfl) f12 ?_
          refine Ev.goto (tgt := 102) (am_dt kX10_person 28 rfl) (by decide) ?_
          exact Ev.iret .int (am_dt kX10_person 58 rfl) rfl rfl k
      · have k := k.1 c
        refine Ev.aload_n 0 (am_dt kX10_person 16 rfl) rfl rfl ?_
        obtain ⟨f9, k⟩ := k
        refine Ev.getRe (ci := 10) (k := 15) (r := a0 + 7) (am_dt kX10_person 17 rfl) (by decide) (by decide) rfl wd_548 f9.1 (am_L.r f9 6 rfl) (by omega) ?_
        refine Ev.iload_n 1 (am_dt kX10_person 18 rfl) rfl rfl ?_
        obtain ⟨f10, k⟩ := k
        refine Ev.iald (am_dt kX10_person 19 rfl) (am_L.s f9 6 rfl) f10 ?_
        refine Ev.goto (tgt := 102) (am_dt kX10_person 20 rfl) (by decide) ?_
        exact Ev.iret .int (am_dt kX10_person 58 rfl) rfl rfl k
    · have k := k.1 c
      refine Ev.iconst (v := (-1)) (am_dt kX10_person 12 rfl) (by decide) ?_
      exact Ev.iret .int (am_dt kX10_person 13 rfl) rfl rfl k
set_option maxRecDepth 20000 in
set_option maxHeartbeats 2000000 in
theorem bX10_use_0 {w : am_W} {d : Nat} {h : am_H} {Q : Option Value → am_H → Prop} {a0 : Nat} {x1 : Int32}  (k : (am_L 10 a0 h) ∧ (∀ h2 : am_H, h2 = sI h a0 0 0 → ((vp_in 6 (hN h2 (a0 + 2))) ∧ (EvM w mX10_within d [.int x1, .int ((-1)), .int ((hI h2 (a0 + 2) (Int32.toNatClampNeg 6)) - 1)] h2 (fun r5 h4 => ∃ v6 : Int32, r5 = some (.int v6) ∧ ((v6 = 0 → (Q (some (.int 0)) h4)) ∧ (¬ v6 = 0 → ((am_L 10 a0 h4) ∧ ((vp_in 8 (hN h4 (a0 + 2))) ∧ (∀ h9 : am_H, h9 = sI h4 (a0 + 2) (Int32.toNatClampNeg 8) x1 → (Q (some (.int 1)) h9))))))))))) : EvM w mX10_use (d + 1) [.ref a0, .int x1] h Q := by
  show Ev w (am_Z w) mX10_use (d + 1) 0 [(0, .ref a0), (1, .int x1)] [] h Q
  refine Ev.aload_n 0 (am_dt kX10_use 0 rfl) rfl rfl ?_
  refine Ev.iconst (v := 0) (am_dt kX10_use 1 rfl) (by decide) ?_
  obtain ⟨f1, k⟩ := k
  refine Ev.putI' (ci := 10) (k := 0) (am_dt kX10_use 2 rfl) (by decide) (by decide) wd_583 rfl rfl rfl rfl f1.1 (fun h2 eh2 => ?_)
  have k := k h2 eh2
  have f1 := am_LsI eh2 f1
  refine Ev.iload_n 1 (am_dt kX10_use 3 rfl) rfl rfl ?_
  refine Ev.iconst (v := (-1)) (am_dt kX10_use 4 rfl) (by decide) ?_
  refine Ev.aload_n 0 (am_dt kX10_use 5 rfl) rfl rfl ?_
  refine Ev.getRe (ci := 10) (k := 10) (r := a0 + 2) (am_dt kX10_use 6 rfl) (by decide) (by decide) rfl wd_543 f1.1 (am_L.r f1 1 rfl) (by omega) ?_
  refine Ev.bipush (v := 6) (am_dt kX10_use 7 rfl) (by decide) ?_
  obtain ⟨f3, k⟩ := k
  refine Ev.iald (am_dt kX10_use 8 rfl) (am_L.s f1 1 rfl) f3 ?_
  refine Ev.iconst (v := 1) (am_dt kX10_use 9 rfl) (by decide) ?_
  refine Ev.isub (am_dt kX10_use 10 rfl) ?_
  refine Ev.callS (v := mX10_within) (As := [.int x1, .int ((-1)), .int ((hI h2 (a0 + 2) (Int32.toNatClampNeg 6)) - 1)]) (st := []) okX10_within wd_653 wd_652 (am_dt kX10_use 11 rfl) rfl rfl (Nat.le_of_ble_eq_true rfl) (Nat.le_of_ble_eq_true rfl) ?_
  refine EvM.mono k (fun r5 h4 k => ?_)
  obtain ⟨v6, rfl, k⟩ := k
  show Ev w _ _ _ 19 _ [.int v6] _ _
  refine Ev.if_ne (tgt := 24) (am_dt kX10_use 12 rfl) (by decide) (fun c => ?_) (fun c => ?_)
  · have k := k.2 c
    refine Ev.aload_n 0 (am_dt kX10_use 15 rfl) rfl rfl ?_
    obtain ⟨f7, k⟩ := k
    refine Ev.getRe (ci := 10) (k := 10) (r := a0 + 2) (am_dt kX10_use 16 rfl) (by decide) (by decide) rfl wd_543 f7.1 (am_L.r f7 1 rfl) (by omega) ?_
    refine Ev.bipush (v := 8) (am_dt kX10_use 17 rfl) (by decide) ?_
    refine Ev.iload_n 1 (am_dt kX10_use 18 rfl) rfl rfl ?_
    obtain ⟨f8, k⟩ := k
    refine Ev.iast' (am_dt kX10_use 19 rfl) (am_L.s f7 1 rfl) f8 (fun h9 eh9 => ?_)
    have k := k h9 eh9
    have f7 := am_LsI eh9 f7
    refine Ev.iconst (v := 1) (am_dt kX10_use 20 rfl) (by decide) ?_
    exact Ev.iret .boolean (am_dt kX10_use 21 rfl) rfl rfl k
  · have k := k.1 c
    refine Ev.iconst (v := 0) (am_dt kX10_use 13 rfl) (by decide) ?_
    exact Ev.iret .boolean (am_dt kX10_use 14 rfl) rfl rfl k
set_option maxRecDepth 20000 in
set_option maxHeartbeats 2000000 in
theorem bX10_joins_0 {w : am_W} {d : Nat} {h : am_H} {Q : Option Value → am_H → Prop} {a0 : Nat} {x1 : Int32} {x2 : Int32} {x3 : Int32} {x4 : Int32} {x5 : Int32}  (k : (am_L 10 a0 h) ∧ ((vp_in (hI h a0 36) (hN h (a0 + 25))) ∧ (∀ h3 : am_H, h3 = sI h (a0 + 25) (Int32.toNatClampNeg (hI h a0 36)) x1 → ((vp_in (hI h3 a0 36) (hN h3 (a0 + 26))) ∧ (∀ h5 : am_H, h5 = sI h3 (a0 + 26) (Int32.toNatClampNeg (hI h3 a0 36)) x2 → ((vp_in (hI h5 a0 36) (hN h5 (a0 + 27))) ∧ (∀ h7 : am_H, h7 = sI h5 (a0 + 27) (Int32.toNatClampNeg (hI h5 a0 36)) x3 → ((vp_in (hI h7 a0 36) (hN h7 (a0 + 28))) ∧ (∀ h9 : am_H, h9 = sI h7 (a0 + 28) (Int32.toNatClampNeg (hI h7 a0 36)) x4 → ((vp_in (hI h9 a0 36) (hN h9 (a0 + 29))) ∧ (∀ h11 : am_H, h11 = sI h9 (a0 + 29) (Int32.toNatClampNeg (hI h9 a0 36)) x5 → ((vp_in (hI h11 a0 36) (hN h11 (a0 + 30))) ∧ (∀ h13 : am_H, h13 = sI h11 (a0 + 30) (Int32.toNatClampNeg (hI h11 a0 36)) ((-1)) → ((vp_in (hI h13 a0 36) (hN h13 (a0 + 31))) ∧ (∀ h15 : am_H, h15 = sI h13 (a0 + 31) (Int32.toNatClampNeg (hI h13 a0 36)) ((-1)) → (∀ h16 : am_H, h16 = sI h15 a0 36 ((hI h15 a0 36) + 1) → (Q none h16))))))))))))))))) : EvM w mX10_joins d [.ref a0, .int x1, .int x2, .int x3, .int x4, .int x5] h Q := by
  show Ev w (am_Z w) mX10_joins d 0 [(0, .ref a0), (1, .int x1), (2, .int x2), (3, .int x3), (4, .int x4), (5, .int x5)] [] h Q
  refine Ev.aload_n 0 (am_dt kX10_joins 0 rfl) rfl rfl ?_
  obtain ⟨f1, k⟩ := k
  refine Ev.getRe (ci := 10) (k := 37) (r := a0 + 25) (am_dt kX10_joins 1 rfl) (by decide) (by decide) rfl wd_566 f1.1 (am_L.r f1 24 rfl) (by omega) ?_
  refine Ev.aload_n 0 (am_dt kX10_joins 2 rfl) rfl rfl ?_
  refine Ev.getI (ci := 10) (k := 36) (am_dt kX10_joins 3 rfl) (by decide) (by decide) rfl wd_703 f1.1 ?_
  refine Ev.iload_n 1 (am_dt kX10_joins 4 rfl) rfl rfl ?_
  obtain ⟨f2, k⟩ := k
  refine Ev.iast' (am_dt kX10_joins 5 rfl) (am_L.s f1 24 rfl) f2 (fun h3 eh3 => ?_)
  have k := k h3 eh3
  have f1 := am_LsI eh3 f1
  refine Ev.aload_n 0 (am_dt kX10_joins 6 rfl) rfl rfl ?_
  refine Ev.getRe (ci := 10) (k := 38) (r := a0 + 26) (am_dt kX10_joins 7 rfl) (by decide) (by decide) rfl wd_567 f1.1 (am_L.r f1 25 rfl) (by omega) ?_
  refine Ev.aload_n 0 (am_dt kX10_joins 8 rfl) rfl rfl ?_
  refine Ev.getI (ci := 10) (k := 36) (am_dt kX10_joins 9 rfl) (by decide) (by decide) rfl wd_703 f1.1 ?_
  refine Ev.iload_n 2 (am_dt kX10_joins 10 rfl) rfl rfl ?_
  obtain ⟨f4, k⟩ := k
  refine Ev.iast' (am_dt kX10_joins 11 rfl) (am_L.s f1 25 rfl) f4 (fun h5 eh5 => ?_)
  have k := k h5 eh5
  have f1 := am_LsI eh5 f1
  refine Ev.aload_n 0 (am_dt kX10_joins 12 rfl) rfl rfl ?_
  refine Ev.getRe (ci := 10) (k := 39) (r := a0 + 27) (am_dt kX10_joins 13 rfl) (by decide) (by decide) rfl wd_568 f1.1 (am_L.r f1 26 rfl) (by omega) ?_
  refine Ev.aload_n 0 (am_dt kX10_joins 14 rfl) rfl rfl ?_
  refine Ev.getI (ci := 10) (k := 36) (am_dt kX10_joins 15 rfl) (by decide) (by decide) rfl wd_703 f1.1 ?_
  refine Ev.iload_n 3 (am_dt kX10_joins 16 rfl) rfl rfl ?_
  obtain ⟨f6, k⟩ := k
  refine Ev.iast' (am_dt kX10_joins 17 rfl) (am_L.s f1 26 rfl) f6 (fun h7 eh7 => ?_)
  have k := k h7 eh7
  have f1 := am_LsI eh7 f1
  refine Ev.aload_n 0 (am_dt kX10_joins 18 rfl) rfl rfl ?_
  refine Ev.getRe (ci := 10) (k := 40) (r := a0 + 28) (am_dt kX10_joins 19 rfl) (by decide) (by decide) rfl wd_569 f1.1 (am_L.r f1 27 rfl) (by omega) ?_
  refine Ev.aload_n 0 (am_dt kX10_joins 20 rfl) rfl rfl ?_
  refine Ev.getI (ci := 10) (k := 36) (am_dt kX10_joins 21 rfl) (by decide) (by decide) rfl wd_703 f1.1 ?_
  refine Ev.iload 4 (am_dt kX10_joins 22 rfl) rfl ?_
  obtain ⟨f8, k⟩ := k
  refine Ev.iast' (am_dt kX10_joins 23 rfl) (am_L.s f1 27 rfl) f8 (fun h9 eh9 => ?_)
  have k := k h9 eh9
  have f1 := am_LsI eh9 f1
  refine Ev.aload_n 0 (am_dt kX10_joins 24 rfl) rfl rfl ?_
  refine Ev.getRe (ci := 10) (k := 41) (r := a0 + 29) (am_dt kX10_joins 25 rfl) (by decide) (by decide) rfl wd_570 f1.1 (am_L.r f1 28 rfl) (by omega) ?_
  refine Ev.aload_n 0 (am_dt kX10_joins 26 rfl) rfl rfl ?_
  refine Ev.getI (ci := 10) (k := 36) (am_dt kX10_joins 27 rfl) (by decide) (by decide) rfl wd_703 f1.1 ?_
  refine Ev.iload 5 (am_dt kX10_joins 28 rfl) rfl ?_
  obtain ⟨f10, k⟩ := k
  refine Ev.iast' (am_dt kX10_joins 29 rfl) (am_L.s f1 28 rfl) f10 (fun h11 eh11 => ?_)
  have k := k h11 eh11
  have f1 := am_LsI eh11 f1
  refine Ev.aload_n 0 (am_dt kX10_joins 30 rfl) rfl rfl ?_
  refine Ev.getRe (ci := 10) (k := 42) (r := a0 + 30) (am_dt kX10_joins 31 rfl) (by decide) (by decide) rfl wd_571 f1.1 (am_L.r f1 29 rfl) (by omega) ?_
  refine Ev.aload_n 0 (am_dt kX10_joins 32 rfl) rfl rfl ?_
  refine Ev.getI (ci := 10) (k := 36) (am_dt kX10_joins 33 rfl) (by decide) (by decide) rfl wd_703 f1.1 ?_
  refine Ev.iconst (v := (-1)) (am_dt kX10_joins 34 rfl) (by decide) ?_
  obtain ⟨f12, k⟩ := k
  refine Ev.iast' (am_dt kX10_joins 35 rfl) (am_L.s f1 29 rfl) f12 (fun h13 eh13 => ?_)
  have k := k h13 eh13
  have f1 := am_LsI eh13 f1
  refine Ev.aload_n 0 (am_dt kX10_joins 36 rfl) rfl rfl ?_
  refine Ev.getRe (ci := 10) (k := 43) (r := a0 + 31) (am_dt kX10_joins 37 rfl) (by decide) (by decide) rfl wd_572 f1.1 (am_L.r f1 30 rfl) (by omega) ?_
  refine Ev.aload_n 0 (am_dt kX10_joins 38 rfl) rfl rfl ?_
  refine Ev.getI (ci := 10) (k := 36) (am_dt kX10_joins 39 rfl) (by decide) (by decide) rfl wd_703 f1.1 ?_
  refine Ev.iconst (v := (-1)) (am_dt kX10_joins 40 rfl) (by decide) ?_
  obtain ⟨f14, k⟩ := k
  refine Ev.iast' (am_dt kX10_joins 41 rfl) (am_L.s f1 30 rfl) f14 (fun h15 eh15 => ?_)
  have k := k h15 eh15
  have f1 := am_LsI eh15 f1
  refine Ev.aload_n 0 (am_dt kX10_joins 42 rfl) rfl rfl ?_
  refine Ev.dup (am_dt kX10_joins 43 rfl) rfl ?_
  refine Ev.getI (ci := 10) (k := 36) (am_dt kX10_joins 44 rfl) (by decide) (by decide) rfl wd_703 f1.1 ?_
  refine Ev.iconst (v := 1) (am_dt kX10_joins 45 rfl) (by decide) ?_
  refine Ev.iadd (am_dt kX10_joins 46 rfl) ?_
  refine Ev.putI' (ci := 10) (k := 36) (am_dt kX10_joins 47 rfl) (by decide) (by decide) wd_703 rfl rfl rfl rfl f1.1 (fun h16 eh16 => ?_)
  have k := k h16 eh16
  have f1 := am_LsI eh16 f1
  exact Ev.vret (am_dt kX10_joins 48 rfl) rfl k
set_option maxRecDepth 20000 in
set_option maxHeartbeats 2000000 in
theorem bX10_dawns_0 {w : am_W} {d : Nat} {h : am_H} {Q : Option Value → am_H → Prop} {a0 : Nat}  (k : (am_L 10 a0 h) ∧ (∀ h2 : am_H, h2 = sI h a0 36 0 → (∀ h3 : am_H, h3 = sI h2 a0 44 0 → (∀ h4 : am_H, h4 = sI h3 a0 48 0 → ((vp_in 2 (hN h4 (a0 + 2))) ∧ (((hI h4 (a0 + 2) (Int32.toNatClampNeg 2)) = 2 → (∀ h6 : am_H, h6 = sI h4 a0 49 0 → ((vp_in 8 (hN h6 (a0 + 2))) ∧ (∀ h8 : am_H, h8 = sI h6 a0 50 (hI h6 (a0 + 2) (Int32.toNatClampNeg 8)) → (Q none h8))))) ∧ (¬ (hI h4 (a0 + 2) (Int32.toNatClampNeg 2)) = 2 → (∀ h9 : am_H, h9 = sI h4 a0 49 100000 → ((vp_in 8 (hN h9 (a0 + 2))) ∧ (∀ h11 : am_H, h11 = sI h9 a0 50 (hI h9 (a0 + 2) (Int32.toNatClampNeg 8)) → (Q none h11))))))))))) : EvM w mX10_dawns d [.ref a0] h Q := by
  show Ev w (am_Z w) mX10_dawns d 0 [(0, .ref a0)] [] h Q
  refine Ev.aload_n 0 (am_dt kX10_dawns 0 rfl) rfl rfl ?_
  refine Ev.iconst (v := 0) (am_dt kX10_dawns 1 rfl) (by decide) ?_
  obtain ⟨f1, k⟩ := k
  refine Ev.putI' (ci := 10) (k := 36) (am_dt kX10_dawns 2 rfl) (by decide) (by decide) wd_703 rfl rfl rfl rfl f1.1 (fun h2 eh2 => ?_)
  have k := k h2 eh2
  have f1 := am_LsI eh2 f1
  refine Ev.aload_n 0 (am_dt kX10_dawns 3 rfl) rfl rfl ?_
  refine Ev.iconst (v := 0) (am_dt kX10_dawns 4 rfl) (by decide) ?_
  refine Ev.putI' (ci := 10) (k := 44) (am_dt kX10_dawns 5 rfl) (by decide) (by decide) wd_704 rfl rfl rfl rfl f1.1 (fun h3 eh3 => ?_)
  have k := k h3 eh3
  have f1 := am_LsI eh3 f1
  refine Ev.aload_n 0 (am_dt kX10_dawns 6 rfl) rfl rfl ?_
  refine Ev.iconst (v := 0) (am_dt kX10_dawns 7 rfl) (by decide) ?_
  refine Ev.putI' (ci := 10) (k := 48) (am_dt kX10_dawns 8 rfl) (by decide) (by decide) wd_705 rfl rfl rfl rfl f1.1 (fun h4 eh4 => ?_)
  have k := k h4 eh4
  have f1 := am_LsI eh4 f1
  refine Ev.aload_n 0 (am_dt kX10_dawns 9 rfl) rfl rfl ?_
  refine Ev.aload_n 0 (am_dt kX10_dawns 10 rfl) rfl rfl ?_
  refine Ev.getRe (ci := 10) (k := 10) (r := a0 + 2) (am_dt kX10_dawns 11 rfl) (by decide) (by decide) rfl wd_543 f1.1 (am_L.r f1 1 rfl) (by omega) ?_
  refine Ev.iconst (v := 2) (am_dt kX10_dawns 12 rfl) (by decide) ?_
  obtain ⟨f5, k⟩ := k
  refine Ev.iald (am_dt kX10_dawns 13 rfl) (am_L.s f1 1 rfl) f5 ?_
  refine Ev.iconst (v := 2) (am_dt kX10_dawns 14 rfl) (by decide) ?_
  refine Ev.icmp_ne (tgt := 30) (am_dt kX10_dawns 15 rfl) (by decide) (fun c => ?_) (fun c => ?_)
  · have k := k.2 c
    refine Ev.ldcw (v := 100000) (am_dt kX10_dawns 18 rfl) wd_708 ?_
    refine Ev.putI' (ci := 10) (k := 49) (am_dt kX10_dawns 19 rfl) (by decide) (by decide) wd_706 rfl rfl rfl rfl f1.1 (fun h9 eh9 => ?_)
    have k := k h9 eh9
    have f1 := am_LsI eh9 f1
    refine Ev.aload_n 0 (am_dt kX10_dawns 20 rfl) rfl rfl ?_
    refine Ev.aload_n 0 (am_dt kX10_dawns 21 rfl) rfl rfl ?_
    refine Ev.getRe (ci := 10) (k := 10) (r := a0 + 2) (am_dt kX10_dawns 22 rfl) (by decide) (by decide) rfl wd_543 f1.1 (am_L.r f1 1 rfl) (by omega) ?_
    refine Ev.bipush (v := 8) (am_dt kX10_dawns 23 rfl) (by decide) ?_
    obtain ⟨f10, k⟩ := k
    refine Ev.iald (am_dt kX10_dawns 24 rfl) (am_L.s f1 1 rfl) f10 ?_
    refine Ev.putI' (ci := 10) (k := 50) (am_dt kX10_dawns 25 rfl) (by decide) (by decide) wd_707 rfl rfl rfl rfl f1.1 (fun h11 eh11 => ?_)
    have k := k h11 eh11
    have f1 := am_LsI eh11 f1
    exact Ev.vret (am_dt kX10_dawns 26 rfl) rfl k
  · have k := k.1 c
    refine Ev.iconst (v := 0) (am_dt kX10_dawns 16 rfl) (by decide) ?_
    refine Ev.goto (tgt := 33) (am_dt kX10_dawns 17 rfl) (by decide) ?_
    refine Ev.putI' (ci := 10) (k := 49) (am_dt kX10_dawns 19 rfl) (by decide) (by decide) wd_706 rfl rfl rfl rfl f1.1 (fun h6 eh6 => ?_)
    have k := k h6 eh6
    have f1 := am_LsI eh6 f1
    refine Ev.aload_n 0 (am_dt kX10_dawns 20 rfl) rfl rfl ?_
    refine Ev.aload_n 0 (am_dt kX10_dawns 21 rfl) rfl rfl ?_
    refine Ev.getRe (ci := 10) (k := 10) (r := a0 + 2) (am_dt kX10_dawns 22 rfl) (by decide) (by decide) rfl wd_543 f1.1 (am_L.r f1 1 rfl) (by omega) ?_
    refine Ev.bipush (v := 8) (am_dt kX10_dawns 23 rfl) (by decide) ?_
    obtain ⟨f7, k⟩ := k
    refine Ev.iald (am_dt kX10_dawns 24 rfl) (am_L.s f1 1 rfl) f7 ?_
    refine Ev.putI' (ci := 10) (k := 50) (am_dt kX10_dawns 25 rfl) (by decide) (by decide) wd_707 rfl rfl rfl rfl f1.1 (fun h8 eh8 => ?_)
    have k := k h8 eh8
    have f1 := am_LsI eh8 f1
    exact Ev.vret (am_dt kX10_dawns 26 rfl) rfl k
set_option maxRecDepth 20000 in
set_option maxHeartbeats 2000000 in
theorem bX10_tellsAll_0 {w : am_W} {d : Nat} {h : am_H} {Q : Option Value → am_H → Prop} {a0 : Nat} {x1 : Int32}  (k : (am_L 10 a0 h) ∧ (EvM w mX10_dawns d [.ref a0] h (fun r3 h2 => r3 = none ∧ (Ev w (am_Z w) mX10_tellsAll (d + 1) 8 [(0, .ref a0), (1, .int x1), (2, .int 0), (3, .int 0)] [] h2 Q)))) : EvM w mX10_tellsAll (d + 1) [.ref a0, .int x1] h Q := by
  show Ev w (am_Z w) mX10_tellsAll (d + 1) 0 [(0, .ref a0), (1, .int x1)] [] h Q
  refine Ev.aload_n 0 (am_dt kX10_tellsAll 0 rfl) rfl rfl ?_
  obtain ⟨f1, k⟩ := k
  refine Ev.callV (ci := 10) (v := mX10_dawns) (As := []) (st := []) okX10_dawns wd_709 wd_710 wd_711 (am_dt kX10_tellsAll 1 rfl) (by decide) rfl rfl (Nat.le_of_ble_eq_true rfl) (Nat.le_of_ble_eq_true rfl) f1.1 ?_
  refine EvM.mono k (fun r3 h2 k => ?_)
  obtain ⟨rfl, k⟩ := k
  show Ev w _ _ _ 4 _ [] _ _
  refine Ev.iconst (v := 0) (am_dt kX10_tellsAll 2 rfl) (by decide) ?_
  refine Ev.istore_n (lv' := [(2, .int 0), (0, .ref a0), (1, .int x1)]) (am_dt kX10_tellsAll 3 rfl) rfl (by decide) rfl ?_
  refine Ev.iconst (v := 0) (am_dt kX10_tellsAll 4 rfl) (by decide) ?_
  refine Ev.istore_n (lv' := [(3, .int 0), (2, .int 0), (0, .ref a0), (1, .int x1)]) (am_dt kX10_tellsAll 5 rfl) rfl (by decide) rfl ?_
  exact Ev.sub [2, 3, 1, 0] rfl k
set_option maxRecDepth 20000 in
set_option maxHeartbeats 2000000 in
theorem bX10_tellsAll_8 {w : am_W} {d : Nat} {h : am_H} {Q : Option Value → am_H → Prop} {a0 : Nat} {x1 : Int32} {x2 : Int32} {x3 : Int32}  (k : (am_L 10 a0 h) ∧ ((vp_in 7 (hN h (a0 + 2))) ∧ (((hI h (a0 + 2) (Int32.toNatClampNeg 7)) ≤ x3 → (Q none h)) ∧ (¬ (hI h (a0 + 2) (Int32.toNatClampNeg 7)) ≤ x3 → ((vp_in x3 (hN h (a0 + 11))) ∧ (((hI h (a0 + 11) (Int32.toNatClampNeg x3)) = 5 → (Ev w (am_Z w) mX10_tellsAll (d + 1) 34 [(0, .ref a0), (1, .int x1), (2, .int x2), (3, .int x3)] [.int 1] h Q)) ∧ (¬ (hI h (a0 + 11) (Int32.toNatClampNeg x3)) = 5 → (Ev w (am_Z w) mX10_tellsAll (d + 1) 34 [(0, .ref a0), (1, .int x1), (2, .int x2), (3, .int x3)] [.int 0] h Q)))))))) : Ev w (am_Z w) mX10_tellsAll (d + 1) 8 [(0, .ref a0), (1, .int x1), (2, .int x2), (3, .int x3)] [] h Q := by
  refine Ev.iload_n 3 (am_dt kX10_tellsAll 6 rfl) rfl rfl ?_
  refine Ev.aload_n 0 (am_dt kX10_tellsAll 7 rfl) rfl rfl ?_
  obtain ⟨f1, k⟩ := k
  refine Ev.getRe (ci := 10) (k := 10) (r := a0 + 2) (am_dt kX10_tellsAll 8 rfl) (by decide) (by decide) rfl wd_543 f1.1 (am_L.r f1 1 rfl) (by omega) ?_
  refine Ev.bipush (v := 7) (am_dt kX10_tellsAll 9 rfl) (by decide) ?_
  obtain ⟨f2, k⟩ := k
  refine Ev.iald (am_dt kX10_tellsAll 10 rfl) (am_L.s f1 1 rfl) f2 ?_
  refine Ev.icmp_ge (tgt := 109) (am_dt kX10_tellsAll 11 rfl) (by decide) (fun c => ?_) (fun c => ?_)
  · have k := k.1 c
    exact Ev.vret (am_dt kX10_tellsAll 65 rfl) rfl k
  · have k := k.2 c
    refine Ev.aload_n 0 (am_dt kX10_tellsAll 12 rfl) rfl rfl ?_
    refine Ev.getRe (ci := 10) (k := 19) (r := a0 + 11) (am_dt kX10_tellsAll 13 rfl) (by decide) (by decide) rfl wd_552 f1.1 (am_L.r f1 10 rfl) (by omega) ?_
    refine Ev.iload_n 3 (am_dt kX10_tellsAll 14 rfl) rfl rfl ?_
    obtain ⟨f3, k⟩ := k
    refine Ev.iald (am_dt kX10_tellsAll 15 rfl) (am_L.s f1 10 rfl) f3 ?_
    refine Ev.iconst (v := 5) (am_dt kX10_tellsAll 16 rfl) (by decide) ?_
    refine Ev.icmp_ne (tgt := 33) (am_dt kX10_tellsAll 17 rfl) (by decide) (fun c => ?_) (fun c => ?_)
    · have k := k.2 c
      refine Ev.iconst (v := 0) (am_dt kX10_tellsAll 20 rfl) (by decide) ?_
      exact k
    · have k := k.1 c
      refine Ev.iconst (v := 1) (am_dt kX10_tellsAll 18 rfl) (by decide) ?_
      refine Ev.goto (tgt := 34) (am_dt kX10_tellsAll 19 rfl) (by decide) ?_
      exact k
set_option maxRecDepth 20000 in
set_option maxHeartbeats 2000000 in
theorem bX10_tellsAll_34 {w : am_W} {d : Nat} {h : am_H} {Q : Option Value → am_H → Prop} {a0 : Nat} {x1 : Int32} {x2 : Int32} {x3 : Int32} {s0 : Int32} (k : (s0 = 0 → ((am_L 10 a0 h) ∧ ((vp_in x3 (hN h (a0 + 7))) ∧ (Ev w (am_Z w) mX10_tellsAll (d + 1) 60 [(0, .ref a0), (1, .int x1), (2, .int x2), (3, .int x3), (4, .int s0)] [.int (hI h (a0 + 7) (Int32.toNatClampNeg x3)), .ref a0] h Q)))) ∧ (¬ s0 = 0 → ((x1 < 0 → ((am_L 10 a0 h) ∧ ((vp_in x3 (hN h (a0 + 7))) ∧ (Ev w (am_Z w) mX10_tellsAll (d + 1) 60 [(0, .ref a0), (1, .int x1), (2, .int x2), (3, .int x3), (4, .int s0)] [.int (hI h (a0 + 7) (Int32.toNatClampNeg x3)), .ref a0] h Q)))) ∧ (¬ x1 < 0 → (Ev w (am_Z w) mX10_tellsAll (d + 1) 60 [(0, .ref a0), (1, .int x1), (2, .int x2), (3, .int x3), (4, .int s0)] [.int ((x1 >>> (x2 &&& 31)) &&& 1), .ref a0] h Q))))) : Ev w (am_Z w) mX10_tellsAll (d + 1) 34 [(0, .ref a0), (1, .int x1), (2, .int x2), (3, .int x3)] [.int s0] h Q := by
  refine Ev.istore (lv' := [(4, .int s0), (0, .ref a0), (1, .int x1), (2, .int x2), (3, .int x3)]) (am_dt kX10_tellsAll 21 rfl) (by decide) rfl ?_
  refine Ev.aload_n 1 (am_dt kX10_tellsAll 22 rfl) rfl rfl ?_
  refine Ev.iload 0 (am_dt kX10_tellsAll 23 rfl) rfl ?_
  refine Ev.if_eq (tgt := 54) (am_dt kX10_tellsAll 24 rfl) (by decide) (fun c => ?_) (fun c => ?_)
  · have k := k.1 c
    refine Ev.aload_n 1 (am_dt kX10_tellsAll 33 rfl) rfl rfl ?_
    obtain ⟨f1, k⟩ := k
    refine Ev.getRe (ci := 10) (k := 15) (r := a0 + 7) (am_dt kX10_tellsAll 34 rfl) (by decide) (by decide) rfl wd_548 f1.1 (am_L.r f1 6 rfl) (by omega) ?_
    refine Ev.iload_n 4 (am_dt kX10_tellsAll 35 rfl) rfl rfl ?_
    obtain ⟨f2, k⟩ := k
    refine Ev.iald (am_dt kX10_tellsAll 36 rfl) (am_L.s f1 6 rfl) f2 ?_
    exact Ev.sub [1, 2, 3, 4, 0] rfl k
  · have k := k.2 c
    refine Ev.iload_n 2 (am_dt kX10_tellsAll 25 rfl) rfl rfl ?_
    refine Ev.if_lt (tgt := 54) (am_dt kX10_tellsAll 26 rfl) (by decide) (fun c => ?_) (fun c => ?_)
    · have k := k.1 c
      refine Ev.aload_n 1 (am_dt kX10_tellsAll 33 rfl) rfl rfl ?_
      obtain ⟨f3, k⟩ := k
      refine Ev.getRe (ci := 10) (k := 15) (r := a0 + 7) (am_dt kX10_tellsAll 34 rfl) (by decide) (by decide) rfl wd_548 f3.1 (am_L.r f3 6 rfl) (by omega) ?_
      refine Ev.iload_n 4 (am_dt kX10_tellsAll 35 rfl) rfl rfl ?_
      obtain ⟨f4, k⟩ := k
      refine Ev.iald (am_dt kX10_tellsAll 36 rfl) (am_L.s f3 6 rfl) f4 ?_
      exact Ev.sub [1, 2, 3, 4, 0] rfl k
    · have k := k.2 c
      refine Ev.iload_n 2 (am_dt kX10_tellsAll 27 rfl) rfl rfl ?_
      refine Ev.iload_n 3 (am_dt kX10_tellsAll 28 rfl) rfl rfl ?_
      refine Ev.ishr (am_dt kX10_tellsAll 29 rfl) ?_
      refine Ev.iconst (v := 1) (am_dt kX10_tellsAll 30 rfl) (by decide) ?_
      refine Ev.iand (am_dt kX10_tellsAll 31 rfl) ?_
      refine Ev.goto (tgt := 60) (am_dt kX10_tellsAll 32 rfl) (by decide) ?_
      exact Ev.sub [1, 2, 3, 4, 0] rfl k
set_option maxRecDepth 20000 in
set_option maxHeartbeats 2000000 in
theorem bX10_tellsAll_60 {w : am_W} {d : Nat} {h : am_H} {Q : Option Value → am_H → Prop} {a0 : Nat} {x1 : Int32} {x2 : Int32} {x3 : Int32} {x4 : Int32} {s0 : Int32} {s1 : Nat} (k : (am_L 10 a0 h) ∧ ((vp_in x3 (hN h (a0 + 8))) ∧ ((vp_in x3 (hN h (a0 + 9))) ∧ ((vp_in x3 (hN h (a0 + 10))) ∧ ((vp_in x3 (hN h (a0 + 11))) ∧ (EvM w mX10_countOf d [.int (hI h (a0 + 11) (Int32.toNatClampNeg x3))] h (fun r7 h6 => ∃ v8 : Int32, r7 = some (.int v8) ∧ ((am_L 10 s1 h6) ∧ (EvM w mX10_joins d [.ref s1, .int s0, .int (hI h (a0 + 8) (Int32.toNatClampNeg x3)), .int (hI h (a0 + 9) (Int32.toNatClampNeg x3)), .int (hI h (a0 + 10) (Int32.toNatClampNeg x3)), .int v8] h6 (fun r11 h10 => r11 = none ∧ ((x4 = 0 → (Ev w (am_Z w) mX10_tellsAll (d + 1) 8 [(0, .ref a0), (1, .int x1), (2, .int (x2 + 0)), (3, .int (x3 + 1))] [] h10 Q)) ∧ (¬ x4 = 0 → (Ev w (am_Z w) mX10_tellsAll (d + 1) 8 [(0, .ref a0), (1, .int x1), (2, .int (x2 + 1)), (3, .int (x3 + 1))] [] h10 Q))))))))))))) : Ev w (am_Z w) mX10_tellsAll (d + 1) 60 [(0, .ref a0), (1, .int x1), (2, .int x2), (3, .int x3), (4, .int x4)] [.int s0, .ref s1] h Q := by
  refine Ev.aload_n 0 (am_dt kX10_tellsAll 37 rfl) rfl rfl ?_
  obtain ⟨f1, k⟩ := k
  refine Ev.getRe (ci := 10) (k := 16) (r := a0 + 8) (am_dt kX10_tellsAll 38 rfl) (by decide) (by decide) rfl wd_549 f1.1 (am_L.r f1 7 rfl) (by omega) ?_
  refine Ev.iload_n 3 (am_dt kX10_tellsAll 39 rfl) rfl rfl ?_
  obtain ⟨f2, k⟩ := k
  refine Ev.iald (am_dt kX10_tellsAll 40 rfl) (am_L.s f1 7 rfl) f2 ?_
  refine Ev.aload_n 0 (am_dt kX10_tellsAll 41 rfl) rfl rfl ?_
  refine Ev.getRe (ci := 10) (k := 17) (r := a0 + 9) (am_dt kX10_tellsAll 42 rfl) (by decide) (by decide) rfl wd_550 f1.1 (am_L.r f1 8 rfl) (by omega) ?_
  refine Ev.iload_n 3 (am_dt kX10_tellsAll 43 rfl) rfl rfl ?_
  obtain ⟨f3, k⟩ := k
  refine Ev.iald (am_dt kX10_tellsAll 44 rfl) (am_L.s f1 8 rfl) f3 ?_
  refine Ev.aload_n 0 (am_dt kX10_tellsAll 45 rfl) rfl rfl ?_
  refine Ev.getRe (ci := 10) (k := 18) (r := a0 + 10) (am_dt kX10_tellsAll 46 rfl) (by decide) (by decide) rfl wd_551 f1.1 (am_L.r f1 9 rfl) (by omega) ?_
  refine Ev.iload_n 3 (am_dt kX10_tellsAll 47 rfl) rfl rfl ?_
  obtain ⟨f4, k⟩ := k
  refine Ev.iald (am_dt kX10_tellsAll 48 rfl) (am_L.s f1 9 rfl) f4 ?_
  refine Ev.aload_n 0 (am_dt kX10_tellsAll 49 rfl) rfl rfl ?_
  refine Ev.getRe (ci := 10) (k := 19) (r := a0 + 11) (am_dt kX10_tellsAll 50 rfl) (by decide) (by decide) rfl wd_552 f1.1 (am_L.r f1 10 rfl) (by omega) ?_
  refine Ev.iload_n 3 (am_dt kX10_tellsAll 51 rfl) rfl rfl ?_
  obtain ⟨f5, k⟩ := k
  refine Ev.iald (am_dt kX10_tellsAll 52 rfl) (am_L.s f1 10 rfl) f5 ?_
  refine Ev.callS (v := mX10_countOf) (As := [.int (hI h (a0 + 11) (Int32.toNatClampNeg x3))]) (st := [.int (hI h (a0 + 10) (Int32.toNatClampNeg x3)), .int (hI h (a0 + 9) (Int32.toNatClampNeg x3)), .int (hI h (a0 + 8) (Int32.toNatClampNeg x3)), .int s0, .ref s1]) okX10_countOf wd_702 wd_701 (am_dt kX10_tellsAll 53 rfl) rfl rfl (Nat.le_of_ble_eq_true rfl) (Nat.le_of_ble_eq_true rfl) ?_
  refine EvM.mono k (fun r7 h6 k => ?_)
  obtain ⟨v8, rfl, k⟩ := k
  show Ev w _ _ _ 87 _ [.int v8, .int (hI h (a0 + 10) (Int32.toNatClampNeg x3)), .int (hI h (a0 + 9) (Int32.toNatClampNeg x3)), .int (hI h (a0 + 8) (Int32.toNatClampNeg x3)), .int s0, .ref s1] _ _
  obtain ⟨f9, k⟩ := k
  refine Ev.callV (ci := 10) (v := mX10_joins) (As := [.int s0, .int (hI h (a0 + 8) (Int32.toNatClampNeg x3)), .int (hI h (a0 + 9) (Int32.toNatClampNeg x3)), .int (hI h (a0 + 10) (Int32.toNatClampNeg x3)), .int v8]) (st := []) okX10_joins wd_712 wd_713 wd_714 (am_dt kX10_tellsAll 54 rfl) (by decide) rfl rfl (Nat.le_of_ble_eq_true rfl) (Nat.le_of_ble_eq_true rfl) f9.1 ?_
  refine EvM.mono k (fun r11 h10 k => ?_)
  obtain ⟨rfl, k⟩ := k
  show Ev w _ _ _ 90 _ [] _ _
  refine Ev.iload_n 2 (am_dt kX10_tellsAll 55 rfl) rfl rfl ?_
  refine Ev.iload 4 (am_dt kX10_tellsAll 56 rfl) rfl ?_
  refine Ev.if_eq (tgt := 100) (am_dt kX10_tellsAll 57 rfl) (by decide) (fun c => ?_) (fun c => ?_)
  · have k := k.1 c
    refine Ev.iconst (v := 0) (am_dt kX10_tellsAll 60 rfl) (by decide) ?_
    refine Ev.iadd (am_dt kX10_tellsAll 61 rfl) ?_
    refine Ev.istore_n (lv' := [(2, .int (x2 + 0)), (0, .ref a0), (1, .int x1), (3, .int x3), (4, .int x4)]) (am_dt kX10_tellsAll 62 rfl) rfl (by decide) rfl ?_
    refine Ev.iinc (v := x3 + 1) (lv' := [(3, .int (x3 + 1)), (2, .int (x2 + 0)), (0, .ref a0), (1, .int x1), (4, .int x4)]) 3 (am_dt kX10_tellsAll 63 rfl) rfl rfl (by decide) rfl ?_
    refine Ev.goto (tgt := 8) (am_dt kX10_tellsAll 64 rfl) (by decide) ?_
    exact Ev.sub [2, 3, 1, 0] rfl k
  · have k := k.2 c
    refine Ev.iconst (v := 1) (am_dt kX10_tellsAll 58 rfl) (by decide) ?_
    refine Ev.goto (tgt := 101) (am_dt kX10_tellsAll 59 rfl) (by decide) ?_
    refine Ev.iadd (am_dt kX10_tellsAll 61 rfl) ?_
    refine Ev.istore_n (lv' := [(2, .int (x2 + 1)), (0, .ref a0), (1, .int x1), (3, .int x3), (4, .int x4)]) (am_dt kX10_tellsAll 62 rfl) rfl (by decide) rfl ?_
    refine Ev.iinc (v := x3 + 1) (lv' := [(3, .int (x3 + 1)), (2, .int (x2 + 1)), (0, .ref a0), (1, .int x1), (4, .int x4)]) 3 (am_dt kX10_tellsAll 63 rfl) rfl rfl (by decide) rfl ?_
    refine Ev.goto (tgt := 8) (am_dt kX10_tellsAll 64 rfl) (by decide) ?_
    exact Ev.sub [2, 3, 1, 0] rfl k
