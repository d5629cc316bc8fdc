set_option maxRecDepth 20000 in
set_option maxHeartbeats 2000000 in
theorem bX5_init_0 {w : am_W} {d : Nat} {h : am_H} {Q : Option Value → am_H → Prop} {a0 : Nat} {a1 : Nat} {a2 : Nat}  (k : ∀ h1 : am_H, h1 = nA h 13 16 → ((hK h1 a0 = 5) ∧ ((hZ h ≠ 0) ∧ (∀ h4 : am_H, h4 = sR h1 a0 1 (hZ h) → (∀ h5 : am_H, h5 = nA h4 12 1000 → ((hK h5 a0 = 5) ∧ ((hZ h4 ≠ 0) ∧ (∀ h8 : am_H, h8 = sR h5 a0 2 (hZ h4) → ((a1 ≠ 0) ∧ (∀ h10 : am_H, h10 = sR h8 a0 0 a1 → ((a2 ≠ 0) ∧ (∀ h12 : am_H, h12 = sR h10 a0 3 a2 → (Q none h12))))))))))))) : EvM w mX5_init (d + 1) [.ref a0, .ref a1, .ref a2] h Q := by
  show Ev w (am_Z w) mX5_init (d + 1) 0 [(0, .ref a0), (1, .ref a1), (2, .ref a2)] [] h Q
  refine Ev.aload_n 0 (am_dt kX5_init 0 rfl) rfl rfl ?_
  refine Ev.objI wd_96 wd_2 wd_3 (am_dt kX5_init 1 rfl) (Nat.le_of_ble_eq_true rfl) ?_
  refine Ev.aload_n 0 (am_dt kX5_init 2 rfl) rfl rfl ?_
  refine Ev.bipush (v := 16) (am_dt kX5_init 3 rfl) (by decide) ?_
  refine Ev.newJ' (n := 16) (N := 16) (am_dt kX5_init 4 rfl) wd_101 (by decide) (by decide) (by decide) (fun h1 eh1 => ?_)
  have k := k h1 eh1
  obtain ⟨f2, k⟩ := k
  obtain ⟨f3, k⟩ := k
  refine Ev.putRF' (ci := 5) (k := 1) (am_dt kX5_init 5 rfl) (by decide) (by decide) wd_97 rfl rfl rfl rfl rfl rfl f3 f2 (fun h4 eh4 => ?_)
  have k := k h4 eh4
  have f2 := kR eh4 f2
  refine Ev.aload_n 0 (am_dt kX5_init 6 rfl) rfl rfl ?_
  refine Ev.sipush (v := 1000) (am_dt kX5_init 7 rfl) (by decide) ?_
  refine Ev.newI' (n := 1000) (N := 1000) (am_dt kX5_init 8 rfl) wd_9 (by decide) (by decide) (by decide) (fun h5 eh5 => ?_)
  have k := k h5 eh5
  obtain ⟨f6, k⟩ := k
  obtain ⟨f7, k⟩ := k
  refine Ev.putRF' (ci := 5) (k := 2) (am_dt kX5_init 9 rfl) (by decide) (by decide) wd_98 rfl rfl rfl rfl rfl rfl f7 f6 (fun h8 eh8 => ?_)
  have k := k h8 eh8
  have f6 := kR eh8 f6
  refine Ev.aload_n 0 (am_dt kX5_init 10 rfl) rfl rfl ?_
  refine Ev.aload_n 1 (am_dt kX5_init 11 rfl) rfl rfl ?_
  obtain ⟨f9, k⟩ := k
  refine Ev.putRF' (ci := 5) (k := 0) (am_dt kX5_init 12 rfl) (by decide) (by decide) wd_99 rfl rfl rfl rfl rfl rfl f9 f6 (fun h10 eh10 => ?_)
  have k := k h10 eh10
  have f6 := kR eh10 f6
  refine Ev.aload_n 0 (am_dt kX5_init 13 rfl) rfl rfl ?_
  refine Ev.aload_n 2 (am_dt kX5_init 14 rfl) rfl rfl ?_
  obtain ⟨f11, k⟩ := k
  refine Ev.putR' (ci := 5) (k := 3) (am_dt kX5_init 15 rfl) (by decide) (by decide) wd_100 rfl rfl rfl rfl f11 f6 (fun h12 eh12 => ?_)
  have k := k h12 eh12
  have f6 := kR eh12 f6
  exact Ev.vret (am_dt kX5_init 16 rfl) rfl k
set_option maxRecDepth 20000 in
set_option maxHeartbeats 2000000 in
theorem bX5_kind_0 {w : am_W} {d : Nat} {h : am_H} {Q : Option Value → am_H → Prop} {a0 : Nat}  (k : (am_L 5 a0 h) ∧ (((hI h a0 5) < 0 → (Q (some (.int 0)) h)) ∧ (¬ (hI h a0 5) < 0 → ((hR h a0 0 ≠ 0) ∧ ((am_L 8 (hR h a0 0) h) ∧ (((nI (hN h ((hR h a0 0) + 2))) ≤ (hI h a0 5) → (Q (some (.int 0)) h)) ∧ (¬ (nI (hN h ((hR h a0 0) + 2))) ≤ (hI h a0 5) → ((vp_in (hI h a0 5) (hN h ((hR h a0 0) + 2))) ∧ (Q (some (.int (hI h ((hR h a0 0) + 2) (Int32.toNatClampNeg (hI h a0 5))))) h))))))))) : EvM w mX5_kind d [.ref a0] h Q := by
  show Ev w (am_Z w) mX5_kind d 0 [(0, .ref a0)] [] h Q
  refine Ev.aload_n 0 (am_dt kX5_kind 0 rfl) rfl rfl ?_
  obtain ⟨f1, k⟩ := k
  refine Ev.getI (ci := 5) (k := 5) (am_dt kX5_kind 1 rfl) (by decide) (by decide) rfl wd_102 f1.1 ?_
  refine Ev.if_lt (tgt := 37) (am_dt kX5_kind 2 rfl) (by decide) (fun c => ?_) (fun c => ?_)
  · have k := k.1 c
    refine Ev.iconst (v := 0) (am_dt kX5_kind 17 rfl) (by decide) ?_
    exact Ev.iret .int (am_dt kX5_kind 18 rfl) rfl rfl k
  · have k := k.2 c
    refine Ev.aload_n 0 (am_dt kX5_kind 3 rfl) rfl rfl ?_
    refine Ev.getI (ci := 5) (k := 5) (am_dt kX5_kind 4 rfl) (by decide) (by decide) rfl wd_102 f1.1 ?_
    refine Ev.aload_n 0 (am_dt kX5_kind 5 rfl) rfl rfl ?_
    obtain ⟨f2, k⟩ := k
    refine Ev.getR (ci := 5) (k := 0) (am_dt kX5_kind 6 rfl) (by decide) (by decide) rfl wd_99 f1.1 f2 ?_
    obtain ⟨f3, k⟩ := k
    refine Ev.getRe (ci := 8) (k := 1) (r := (hR h a0 0) + 2) (am_dt kX5_kind 7 rfl) (by decide) (by decide) rfl wd_103 f3.1 (am_L.r f3 1 rfl) (by omega) ?_
    refine Ev.alen 12 (am_dt kX5_kind 8 rfl) (by decide) (by decide) (am_L.s f3 1 rfl) ?_
    refine Ev.icmp_ge (tgt := 37) (am_dt kX5_kind 9 rfl) (by decide) (fun c => ?_) (fun c => ?_)
    · have k := k.1 c
      refine Ev.iconst (v := 0) (am_dt kX5_kind 17 rfl) (by decide) ?_
      exact Ev.iret .int (am_dt kX5_kind 18 rfl) rfl rfl k
    · have k := k.2 c
      refine Ev.aload_n 0 (am_dt kX5_kind 10 rfl) rfl rfl ?_
      refine Ev.getR (ci := 5) (k := 0) (am_dt kX5_kind 11 rfl) (by decide) (by decide) rfl wd_99 f1.1 f2 ?_
      refine Ev.getRe (ci := 8) (k := 1) (r := (hR h a0 0) + 2) (am_dt kX5_kind 12 rfl) (by decide) (by decide) rfl wd_103 f3.1 (am_L.r f3 1 rfl) (by omega) ?_
      refine Ev.aload_n 0 (am_dt kX5_kind 13 rfl) rfl rfl ?_
      refine Ev.getI (ci := 5) (k := 5) (am_dt kX5_kind 14 rfl) (by decide) (by decide) rfl wd_102 f1.1 ?_
      obtain ⟨f4, k⟩ := k
      refine Ev.iald (am_dt kX5_kind 15 rfl) (am_L.s f3 1 rfl) f4 ?_
      refine Ev.goto (tgt := 38) (am_dt kX5_kind 16 rfl) (by decide) ?_
      exact Ev.iret .int (am_dt kX5_kind 18 rfl) rfl rfl k
set_option maxRecDepth 20000 in
set_option maxHeartbeats 2000000 in
theorem bX5_step_0 {w : am_W} {d : Nat} {h : am_H} {Q : Option Value → am_H → Prop} {a0 : Nat}  (k : (am_L 5 a0 h) ∧ ((hR h a0 0 ≠ 0) ∧ ((am_L 8 (hR h a0 0) h) ∧ ((((hI h (hR h a0 0) 4) - 1) ≤ (hI h a0 5) → (Q none h)) ∧ (¬ ((hI h (hR h a0 0) 4) - 1) ≤ (hI h a0 5) → (∀ h4 : am_H, h4 = sI h a0 5 ((hI h a0 5) + 1) → (Q none h4))))))) : EvM w mX5_step d [.ref a0] h Q := by
  show Ev w (am_Z w) mX5_step d 0 [(0, .ref a0)] [] h Q
  refine Ev.aload_n 0 (am_dt kX5_step 0 rfl) rfl rfl ?_
  obtain ⟨f1, k⟩ := k
  refine Ev.getI (ci := 5) (k := 5) (am_dt kX5_step 1 rfl) (by decide) (by decide) rfl wd_102 f1.1 ?_
  refine Ev.aload_n 0 (am_dt kX5_step 2 rfl) rfl rfl ?_
  obtain ⟨f2, k⟩ := k
  refine Ev.getR (ci := 5) (k := 0) (am_dt kX5_step 3 rfl) (by decide) (by decide) rfl wd_99 f1.1 f2 ?_
  obtain ⟨f3, k⟩ := k
  refine Ev.getI (ci := 8) (k := 4) (am_dt kX5_step 4 rfl) (by decide) (by decide) rfl wd_104 f3.1 ?_
  refine Ev.iconst (v := 1) (am_dt kX5_step 5 rfl) (by decide) ?_
  refine Ev.isub (am_dt kX5_step 6 rfl) ?_
  refine Ev.icmp_ge (tgt := 26) (am_dt kX5_step 7 rfl) (by decide) (fun c => ?_) (fun c => ?_)
  · have k := k.1 c
    exact Ev.vret (am_dt kX5_step 14 rfl) rfl k
  · have k := k.2 c
    refine Ev.aload_n 0 (am_dt kX5_step 8 rfl) rfl rfl ?_
    refine Ev.dup (am_dt kX5_step 9 rfl) rfl ?_
    refine Ev.getI (ci := 5) (k := 5) (am_dt kX5_step 10 rfl) (by decide) (by decide) rfl wd_102 f1.1 ?_
    refine Ev.iconst (v := 1) (am_dt kX5_step 11 rfl) (by decide) ?_
    refine Ev.iadd (am_dt kX5_step 12 rfl) ?_
    refine Ev.putI' (ci := 5) (k := 5) (am_dt kX5_step 13 rfl) (by decide) (by decide) wd_102 rfl rfl rfl rfl f1.1 (fun h4 eh4 => ?_)
    have k := k h4 eh4
    have f1 := am_LsI eh4 f1
    have f3 := am_LsI eh4 f3
    exact Ev.vret (am_dt kX5_step 14 rfl) rfl k
set_option maxRecDepth 20000 in
set_option maxHeartbeats 2000000 in
theorem bX5_wrong_0 {w : am_W} {d : Nat} {h : am_H} {Q : Option Value → am_H → Prop} {a0 : Nat} {x1 : Int32}  (k : (am_L 5 a0 h) ∧ (((hI h a0 6) = 0 → (((hI h a0 5) < 0 → (Q none h)) ∧ (¬ (hI h a0 5) < 0 → ((hR h a0 0 ≠ 0) ∧ ((am_L 8 (hR h a0 0) h) ∧ (((nI (hN h ((hR h a0 0) + 3))) ≤ (hI h a0 5) → (Q none h)) ∧ (¬ (nI (hN h ((hR h a0 0) + 3))) ≤ (hI h a0 5) → ((vp_in (hI h a0 5) (hN h ((hR h a0 0) + 3))) ∧ (∀ h5 : am_H, h5 = sI h a0 6 (x1 + (16 * (hI h ((hR h a0 0) + 3) (Int32.toNatClampNeg (hI h a0 5))))) → (Q none h5)))))))))) ∧ (¬ (hI h a0 6) = 0 → (Q none h)))) : EvM w mX5_wrong d [.ref a0, .int x1] h Q := by
  show Ev w (am_Z w) mX5_wrong d 0 [(0, .ref a0), (1, .int x1)] [] h Q
  refine Ev.aload_n 0 (am_dt kX5_wrong 0 rfl) rfl rfl ?_
  obtain ⟨f1, k⟩ := k
  refine Ev.getI (ci := 5) (k := 6) (am_dt kX5_wrong 1 rfl) (by decide) (by decide) rfl wd_105 f1.1 ?_
  refine Ev.if_ne (tgt := 50) (am_dt kX5_wrong 2 rfl) (by decide) (fun c => ?_) (fun c => ?_)
  · have k := k.2 c
    exact Ev.vret (am_dt kX5_wrong 25 rfl) rfl k
  · have k := k.1 c
    refine Ev.aload_n 0 (am_dt kX5_wrong 3 rfl) rfl rfl ?_
    refine Ev.getI (ci := 5) (k := 5) (am_dt kX5_wrong 4 rfl) (by decide) (by decide) rfl wd_102 f1.1 ?_
    refine Ev.if_lt (tgt := 50) (am_dt kX5_wrong 5 rfl) (by decide) (fun c => ?_) (fun c => ?_)
    · have k := k.1 c
      exact Ev.vret (am_dt kX5_wrong 25 rfl) rfl k
    · have k := k.2 c
      refine Ev.aload_n 0 (am_dt kX5_wrong 6 rfl) rfl rfl ?_
      refine Ev.getI (ci := 5) (k := 5) (am_dt kX5_wrong 7 rfl) (by decide) (by decide) rfl wd_102 f1.1 ?_
      refine Ev.aload_n 0 (am_dt kX5_wrong 8 rfl) rfl rfl ?_
      obtain ⟨f2, k⟩ := k
      refine Ev.getR (ci := 5) (k := 0) (am_dt kX5_wrong 9 rfl) (by decide) (by decide) rfl wd_99 f1.1 f2 ?_
      obtain ⟨f3, k⟩ := k
      refine Ev.getRe (ci := 8) (k := 2) (r := (hR h a0 0) + 3) (am_dt kX5_wrong 10 rfl) (by decide) (by decide) rfl wd_106 f3.1 (am_L.r f3 2 rfl) (by omega) ?_
      refine Ev.alen 12 (am_dt kX5_wrong 11 rfl) (by decide) (by decide) (am_L.s f3 2 rfl) ?_
      refine Ev.icmp_ge (tgt := 50) (am_dt kX5_wrong 12 rfl) (by decide) (fun c => ?_) (fun c => ?_)
      · have k := k.1 c
        exact Ev.vret (am_dt kX5_wrong 25 rfl) rfl k
      · have k := k.2 c
        refine Ev.aload_n 0 (am_dt kX5_wrong 13 rfl) rfl rfl ?_
        refine Ev.iload_n 1 (am_dt kX5_wrong 14 rfl) rfl rfl ?_
        refine Ev.bipush (v := 16) (am_dt kX5_wrong 15 rfl) (by decide) ?_
        refine Ev.aload_n 0 (am_dt kX5_wrong 16 rfl) rfl rfl ?_
        refine Ev.getR (ci := 5) (k := 0) (am_dt kX5_wrong 17 rfl) (by decide) (by decide) rfl wd_99 f1.1 f2 ?_
        refine Ev.getRe (ci := 8) (k := 2) (r := (hR h a0 0) + 3) (am_dt kX5_wrong 18 rfl) (by decide) (by decide) rfl wd_106 f3.1 (am_L.r f3 2 rfl) (by omega) ?_
        refine Ev.aload_n 0 (am_dt kX5_wrong 19 rfl) rfl rfl ?_
        refine Ev.getI (ci := 5) (k := 5) (am_dt kX5_wrong 20 rfl) (by decide) (by decide) rfl wd_102 f1.1 ?_
        obtain ⟨f4, k⟩ := k
        refine Ev.iald (am_dt kX5_wrong 21 rfl) (am_L.s f3 2 rfl) f4 ?_
        refine Ev.imul (am_dt kX5_wrong 22 rfl) ?_
        refine Ev.iadd (am_dt kX5_wrong 23 rfl) ?_
        refine Ev.putI' (ci := 5) (k := 6) (am_dt kX5_wrong 24 rfl) (by decide) (by decide) wd_105 rfl rfl rfl rfl f1.1 (fun h5 eh5 => ?_)
        have k := k h5 eh5
        have f1 := am_LsI eh5 f1
        have f3 := am_LsI eh5 f3
        exact Ev.vret (am_dt kX5_wrong 25 rfl) rfl k
set_option maxRecDepth 20000 in
set_option maxHeartbeats 2000000 in
theorem bX5_expect_0 {w : am_W} {d : Nat} {h : am_H} {Q : Option Value → am_H → Prop} {a0 : Nat} {x1 : Int32}  (k : (am_L 5 a0 h) ∧ (EvM w mX5_kind d [.ref a0] h (fun r3 h2 => ∃ v4 : Int32, r3 = some (.int v4) ∧ ((v4 = x1 → ((am_L 5 a0 h2) ∧ (EvM w mX5_step d [.ref a0] h2 (fun r7 h6 => r7 = none ∧ (Q none h6))))) ∧ (¬ v4 = x1 → ((am_L 5 a0 h2) ∧ (EvM w mX5_wrong d [.ref a0, .int 1] h2 (fun r10 h9 => r10 = none ∧ (Q none h9))))))))) : EvM w mX5_expect (d + 1) [.ref a0, .int x1] h Q := by
  show Ev w (am_Z w) mX5_expect (d + 1) 0 [(0, .ref a0), (1, .int x1)] [] h Q
  refine Ev.aload_n 0 (am_dt kX5_expect 0 rfl) rfl rfl ?_
  obtain ⟨f1, k⟩ := k
  refine Ev.callV (ci := 5) (v := mX5_kind) (As := []) (st := []) okX5_kind wd_107 wd_108 wd_109 (am_dt kX5_expect 1 rfl) (by decide) rfl rfl (Nat.le_of_ble_eq_true rfl) (Nat.le_of_ble_eq_true rfl) f1.1 ?_
  refine EvM.mono k (fun r3 h2 k => ?_)
  obtain ⟨v4, rfl, k⟩ := k
  show Ev w _ _ _ 4 _ [.int v4] _ _
  refine Ev.iload_n 1 (am_dt kX5_expect 2 rfl) rfl rfl ?_
  refine Ev.icmp_ne (tgt := 15) (am_dt kX5_expect 3 rfl) (by decide) (fun c => ?_) (fun c => ?_)
  · have k := k.2 c
    refine Ev.aload_n 0 (am_dt kX5_expect 7 rfl) rfl rfl ?_
    refine Ev.iconst (v := 1) (am_dt kX5_expect 8 rfl) (by decide) ?_
    obtain ⟨f8, k⟩ := k
    refine Ev.callV (ci := 5) (v := mX5_wrong) (As := [.int 1]) (st := []) okX5_wrong wd_113 wd_114 wd_115 (am_dt kX5_expect 9 rfl) (by decide) rfl rfl (Nat.le_of_ble_eq_true rfl) (Nat.le_of_ble_eq_true rfl) f8.1 ?_
    refine EvM.mono k (fun r10 h9 k => ?_)
    obtain ⟨rfl, k⟩ := k
    show Ev w _ _ _ 20 _ [] _ _
    exact Ev.vret (am_dt kX5_expect 10 rfl) rfl k
  · have k := k.1 c
    refine Ev.aload_n 0 (am_dt kX5_expect 4 rfl) rfl rfl ?_
    obtain ⟨f5, k⟩ := k
    refine Ev.callV (ci := 5) (v := mX5_step) (As := []) (st := []) okX5_step wd_110 wd_111 wd_112 (am_dt kX5_expect 5 rfl) (by decide) rfl rfl (Nat.le_of_ble_eq_true rfl) (Nat.le_of_ble_eq_true rfl) f5.1 ?_
    refine EvM.mono k (fun r7 h6 k => ?_)
    obtain ⟨rfl, k⟩ := k
    show Ev w _ _ _ 12 _ [] _ _
    refine Ev.goto (tgt := 20) (am_dt kX5_expect 6 rfl) (by decide) ?_
    exact Ev.vret (am_dt kX5_expect 10 rfl) rfl k
set_option maxRecDepth 20000 in
set_option maxHeartbeats 2000000 in
theorem bX5_number_0 {w : am_W} {d : Nat} {h : am_H} {Q : Option Value → am_H → Prop} {a0 : Nat} {x1 : Int32} {x2 : Int32}  (k : (am_L 5 a0 h) ∧ (EvM w mX5_kind d [.ref a0] h (fun r3 h2 => ∃ v4 : Int32, r3 = some (.int v4) ∧ ((v4 = 2 → ((am_L 5 a0 h2) ∧ ((hR h2 a0 0 ≠ 0) ∧ ((am_L 8 (hR h2 a0 0) h2) ∧ (EvM w mX8_numberValue d [.ref (hR h2 a0 0), .int (hI h2 a0 5)] h2 (fun r9 h8 => ∃ v10 : Int32, r9 = some (.int v10) ∧ ((v10 < x1 → ((am_L 5 a0 h8) ∧ (EvM w mX5_wrong d [.ref a0, .int 4] h8 (fun r13 h12 => r13 = none ∧ (Q (some (.int x1)) h12))))) ∧ (¬ v10 < x1 → ((v10 ≤ x2 → ((am_L 5 a0 h8) ∧ (EvM w mX5_step d [.ref a0] h8 (fun r16 h15 => r16 = none ∧ (Q (some (.int v10)) h15))))) ∧ (¬ v10 ≤ x2 → ((am_L 5 a0 h8) ∧ (EvM w mX5_wrong d [.ref a0, .int 4] h8 (fun r19 h18 => r19 = none ∧ (Q (some (.int x1)) h18)))))))))))))) ∧ (¬ v4 = 2 → ((am_L 5 a0 h2) ∧ (EvM w mX5_wrong d [.ref a0, .int 1] h2 (fun r22 h21 => r22 = none ∧ (Q (some (.int x1)) h21))))))))) : EvM w mX5_number (d + 1) [.ref a0, .int x1, .int x2] h Q := by
  show Ev w (am_Z w) mX5_number (d + 1) 0 [(0, .ref a0), (1, .int x1), (2, .int x2)] [] h Q
  refine Ev.aload_n 0 (am_dt kX5_number 0 rfl) rfl rfl ?_
  obtain ⟨f1, k⟩ := k
  refine Ev.callV (ci := 5) (v := mX5_kind) (As := []) (st := []) okX5_kind wd_107 wd_108 wd_109 (am_dt kX5_number 1 rfl) (by decide) rfl rfl (Nat.le_of_ble_eq_true rfl) (Nat.le_of_ble_eq_true rfl) f1.1 ?_
  refine EvM.mono k (fun r3 h2 k => ?_)
  obtain ⟨v4, rfl, k⟩ := k
  show Ev w _ _ _ 4 _ [.int v4] _ _
  refine Ev.iconst (v := 2) (am_dt kX5_number 2 rfl) (by decide) ?_
  refine Ev.icmp_eq (tgt := 15) (am_dt kX5_number 3 rfl) (by decide) (fun c => ?_) (fun c => ?_)
  · have k := k.1 c
    refine Ev.aload_n 0 (am_dt kX5_number 9 rfl) rfl rfl ?_
    obtain ⟨f5, k⟩ := k
    obtain ⟨f6, k⟩ := k
    refine Ev.getR (ci := 5) (k := 0) (am_dt kX5_number 10 rfl) (by decide) (by decide) rfl wd_99 f5.1 f6 ?_
    refine Ev.aload_n 0 (am_dt kX5_number 11 rfl) rfl rfl ?_
    refine Ev.getI (ci := 5) (k := 5) (am_dt kX5_number 12 rfl) (by decide) (by decide) rfl wd_102 f5.1 ?_
    obtain ⟨f7, k⟩ := k
    refine Ev.callV (ci := 8) (v := mX8_numberValue) (As := [.int (hI h2 a0 5)]) (st := []) okX8_numberValue wd_116 wd_117 wd_118 (am_dt kX5_number 13 rfl) (by decide) rfl rfl (Nat.le_of_ble_eq_true rfl) (Nat.le_of_ble_eq_true rfl) f7.1 ?_
    refine EvM.mono k (fun r9 h8 k => ?_)
    obtain ⟨v10, rfl, k⟩ := k
    show Ev w _ _ _ 26 _ [.int v10] _ _
    refine Ev.istore_n (lv' := [(3, .int v10), (0, .ref a0), (1, .int x1), (2, .int x2)]) (am_dt kX5_number 14 rfl) rfl (by decide) rfl ?_
    refine Ev.iload_n 0 (am_dt kX5_number 15 rfl) rfl rfl ?_
    refine Ev.iload_n 2 (am_dt kX5_number 16 rfl) rfl rfl ?_
    refine Ev.icmp_lt (tgt := 37) (am_dt kX5_number 17 rfl) (by decide) (fun c => ?_) (fun c => ?_)
    · have k := k.1 c
      refine Ev.aload_n 1 (am_dt kX5_number 21 rfl) rfl rfl ?_
      refine Ev.iconst (v := 4) (am_dt kX5_number 22 rfl) (by decide) ?_
      obtain ⟨f11, k⟩ := k
      refine Ev.callV (ci := 5) (v := mX5_wrong) (As := [.int 4]) (st := []) okX5_wrong wd_113 wd_114 wd_115 (am_dt kX5_number 23 rfl) (by decide) rfl rfl (Nat.le_of_ble_eq_true rfl) (Nat.le_of_ble_eq_true rfl) f11.1 ?_
      refine EvM.mono k (fun r13 h12 k => ?_)
      obtain ⟨rfl, k⟩ := k
      show Ev w _ _ _ 42 _ [] _ _
      refine Ev.iload_n 2 (am_dt kX5_number 24 rfl) rfl rfl ?_
      exact Ev.iret .int (am_dt kX5_number 25 rfl) rfl rfl k
    · have k := k.2 c
      refine Ev.iload_n 0 (am_dt kX5_number 18 rfl) rfl rfl ?_
      refine Ev.iload_n 3 (am_dt kX5_number 19 rfl) rfl rfl ?_
      refine Ev.icmp_le (tgt := 44) (am_dt kX5_number 20 rfl) (by decide) (fun c => ?_) (fun c => ?_)
      · have k := k.1 c
        refine Ev.aload_n 1 (am_dt kX5_number 26 rfl) rfl rfl ?_
        obtain ⟨f14, k⟩ := k
        refine Ev.callV (ci := 5) (v := mX5_step) (As := []) (st := []) okX5_step wd_110 wd_111 wd_112 (am_dt kX5_number 27 rfl) (by decide) rfl rfl (Nat.le_of_ble_eq_true rfl) (Nat.le_of_ble_eq_true rfl) f14.1 ?_
        refine EvM.mono k (fun r16 h15 k => ?_)
        obtain ⟨rfl, k⟩ := k
        show Ev w _ _ _ 48 _ [] _ _
        refine Ev.iload_n 0 (am_dt kX5_number 28 rfl) rfl rfl ?_
        exact Ev.iret .int (am_dt kX5_number 29 rfl) rfl rfl k
      · have k := k.2 c
        refine Ev.aload_n 1 (am_dt kX5_number 21 rfl) rfl rfl ?_
        refine Ev.iconst (v := 4) (am_dt kX5_number 22 rfl) (by decide) ?_
        obtain ⟨f17, k⟩ := k
        refine Ev.callV (ci := 5) (v := mX5_wrong) (As := [.int 4]) (st := []) okX5_wrong wd_113 wd_114 wd_115 (am_dt kX5_number 23 rfl) (by decide) rfl rfl (Nat.le_of_ble_eq_true rfl) (Nat.le_of_ble_eq_true rfl) f17.1 ?_
        refine EvM.mono k (fun r19 h18 k => ?_)
        obtain ⟨rfl, k⟩ := k
        show Ev w _ _ _ 42 _ [] _ _
        refine Ev.iload_n 2 (am_dt kX5_number 24 rfl) rfl rfl ?_
        exact Ev.iret .int (am_dt kX5_number 25 rfl) rfl rfl k
  · have k := k.2 c
    refine Ev.aload_n 0 (am_dt kX5_number 4 rfl) rfl rfl ?_
    refine Ev.iconst (v := 1) (am_dt kX5_number 5 rfl) (by decide) ?_
    obtain ⟨f20, k⟩ := k
    refine Ev.callV (ci := 5) (v := mX5_wrong) (As := [.int 1]) (st := []) okX5_wrong wd_113 wd_114 wd_115 (am_dt kX5_number 6 rfl) (by decide) rfl rfl (Nat.le_of_ble_eq_true rfl) (Nat.le_of_ble_eq_true rfl) f20.1 ?_
    refine EvM.mono k (fun r22 h21 k => ?_)
    obtain ⟨rfl, k⟩ := k
    show Ev w _ _ _ 13 _ [] _ _
    refine Ev.iload_n 1 (am_dt kX5_number 7 rfl) rfl rfl ?_
    exact Ev.iret .int (am_dt kX5_number 8 rfl) rfl rfl k
set_option maxRecDepth 20000 in
set_option maxHeartbeats 2000000 in
theorem bX5_line_0 {w : am_W} {d : Nat} {h : am_H} {Q : Option Value → am_H → Prop} {a0 : Nat}  (k : (am_L 5 a0 h) ∧ (EvM w mX5_kind d [.ref a0] h (fun r3 h2 => ∃ v4 : Int32, r3 = some (.int v4) ∧ ((v4 < 64 → (Ev w (am_Z w) mX5_line (d + 1) 25 [(0, .ref a0), (1, .int v4)] [] h2 Q)) ∧ (¬ v4 < 64 → ((68 < v4 → (Ev w (am_Z w) mX5_line (d + 1) 25 [(0, .ref a0), (1, .int v4)] [] h2 Q)) ∧ (¬ 68 < v4 → ((am_L 5 a0 h2) ∧ (EvM w mX5_lineToldOnce d [.ref a0, .int v4] h2 (fun r7 h6 => r7 = none ∧ ((am_L 5 a0 h6) ∧ (EvM w mX5_expect d [.ref a0, .int 59] h6 (fun r10 h9 => r10 = none ∧ (Q none h9)))))))))))))) : EvM w mX5_line (d + 1) [.ref a0] h Q := by
  show Ev w (am_Z w) mX5_line (d + 1) 0 [(0, .ref a0)] [] h Q
  refine Ev.aload_n 0 (am_dt kX5_line 0 rfl) rfl rfl ?_
  obtain ⟨f1, k⟩ := k
  refine Ev.callV (ci := 5) (v := mX5_kind) (As := []) (st := []) okX5_kind wd_107 wd_108 wd_109 (am_dt kX5_line 1 rfl) (by decide) rfl rfl (Nat.le_of_ble_eq_true rfl) (Nat.le_of_ble_eq_true rfl) f1.1 ?_
  refine EvM.mono k (fun r3 h2 k => ?_)
  obtain ⟨v4, rfl, k⟩ := k
  show Ev w _ _ _ 4 _ [.int v4] _ _
  refine Ev.istore_n (lv' := [(1, .int v4), (0, .ref a0)]) (am_dt kX5_line 2 rfl) rfl (by decide) rfl ?_
  refine Ev.iload_n 0 (am_dt kX5_line 3 rfl) rfl rfl ?_
  refine Ev.bipush (v := 64) (am_dt kX5_line 4 rfl) (by decide) ?_
  refine Ev.icmp_lt (tgt := 25) (am_dt kX5_line 5 rfl) (by decide) (fun c => ?_) (fun c => ?_)
  · have k := k.1 c
    exact Ev.sub [1, 0] rfl k
  · have k := k.2 c
    refine Ev.iload_n 0 (am_dt kX5_line 6 rfl) rfl rfl ?_
    refine Ev.bipush (v := 68) (am_dt kX5_line 7 rfl) (by decide) ?_
    refine Ev.icmp_gt (tgt := 25) (am_dt kX5_line 8 rfl) (by decide) (fun c => ?_) (fun c => ?_)
    · have k := k.1 c
      exact Ev.sub [1, 0] rfl k
    · have k := k.2 c
      refine Ev.aload_n 1 (am_dt kX5_line 9 rfl) rfl rfl ?_
      refine Ev.iload_n 0 (am_dt kX5_line 10 rfl) rfl rfl ?_
      obtain ⟨f5, k⟩ := k
      refine Ev.callV (ci := 5) (v := mX5_lineToldOnce) (As := [.int v4]) (st := []) okX5_lineToldOnce wd_119 wd_120 wd_121 (am_dt kX5_line 11 rfl) (by decide) rfl rfl (Nat.le_of_ble_eq_true rfl) (Nat.le_of_ble_eq_true rfl) f5.1 ?_
      refine EvM.mono k (fun r7 h6 k => ?_)
      obtain ⟨rfl, k⟩ := k
      show Ev w _ _ _ 22 _ [] _ _
      refine Ev.goto (tgt := 56) (am_dt kX5_line 12 rfl) (by decide) ?_
      refine Ev.aload_n 1 (am_dt kX5_line 28 rfl) rfl rfl ?_
      refine Ev.bipush (v := 59) (am_dt kX5_line 29 rfl) (by decide) ?_
      obtain ⟨f8, k⟩ := k
      refine Ev.callV (ci := 5) (v := mX5_expect) (As := [.int 59]) (st := []) okX5_expect wd_122 wd_123 wd_124 (am_dt kX5_line 30 rfl) (by decide) rfl rfl (Nat.le_of_ble_eq_true rfl) (Nat.le_of_ble_eq_true rfl) f8.1 ?_
      refine EvM.mono k (fun r10 h9 k => ?_)
      obtain ⟨rfl, k⟩ := k
      show Ev w _ _ _ 62 _ [] _ _
      exact Ev.vret (am_dt kX5_line 31 rfl) rfl k
set_option maxRecDepth 20000 in
set_option maxHeartbeats 2000000 in
theorem bX5_line_25 {w : am_W} {d : Nat} {h : am_H} {Q : Option Value → am_H → Prop} {a0 : Nat} {x1 : Int32}  (k : (x1 = 69 → ((am_L 5 a0 h) ∧ (EvM w mX5_lawLine d [.ref a0] h (fun r3 h2 => r3 = none ∧ ((am_L 5 a0 h2) ∧ (EvM w mX5_expect d [.ref a0, .int 59] h2 (fun r6 h5 => r6 = none ∧ (Q none h5)))))))) ∧ (¬ x1 = 69 → ((x1 = 70 → ((am_L 5 a0 h) ∧ (EvM w mX5_personLine d [.ref a0] h (fun r9 h8 => r9 = none ∧ ((am_L 5 a0 h8) ∧ (EvM w mX5_expect d [.ref a0, .int 59] h8 (fun r12 h11 => r12 = none ∧ (Q none h11)))))))) ∧ (¬ x1 = 70 → ((am_L 5 a0 h) ∧ (EvM w mX5_wrong d [.ref a0, .int 1] h (fun r15 h14 => r15 = none ∧ ((am_L 5 a0 h14) ∧ (EvM w mX5_expect d [.ref a0, .int 59] h14 (fun r18 h17 => r18 = none ∧ (Q none h17))))))))))) : Ev w (am_Z w) mX5_line (d + 1) 25 [(0, .ref a0), (1, .int x1)] [] h Q := by
  refine Ev.iload_n 1 (am_dt kX5_line 13 rfl) rfl rfl ?_
  refine Ev.bipush (v := 69) (am_dt kX5_line 14 rfl) (by decide) ?_
  refine Ev.icmp_ne (tgt := 38) (am_dt kX5_line 15 rfl) (by decide) (fun c => ?_) (fun c => ?_)
  · have k := k.2 c
    refine Ev.iload_n 1 (am_dt kX5_line 19 rfl) rfl rfl ?_
    refine Ev.bipush (v := 70) (am_dt kX5_line 20 rfl) (by decide) ?_
    refine Ev.icmp_ne (tgt := 51) (am_dt kX5_line 21 rfl) (by decide) (fun c => ?_) (fun c => ?_)
    · have k := k.2 c
      refine Ev.aload_n 0 (am_dt kX5_line 25 rfl) rfl rfl ?_
      refine Ev.iconst (v := 1) (am_dt kX5_line 26 rfl) (by decide) ?_
      obtain ⟨f13, k⟩ := k
      refine Ev.callV (ci := 5) (v := mX5_wrong) (As := [.int 1]) (st := []) okX5_wrong wd_113 wd_114 wd_115 (am_dt kX5_line 27 rfl) (by decide) rfl rfl (Nat.le_of_ble_eq_true rfl) (Nat.le_of_ble_eq_true rfl) f13.1 ?_
      refine EvM.mono k (fun r15 h14 k => ?_)
      obtain ⟨rfl, k⟩ := k
      show Ev w _ _ _ 56 _ [] _ _
      refine Ev.aload_n 0 (am_dt kX5_line 28 rfl) rfl rfl ?_
      refine Ev.bipush (v := 59) (am_dt kX5_line 29 rfl) (by decide) ?_
      obtain ⟨f16, k⟩ := k
      refine Ev.callV (ci := 5) (v := mX5_expect) (As := [.int 59]) (st := []) okX5_expect wd_122 wd_123 wd_124 (am_dt kX5_line 30 rfl) (by decide) rfl rfl (Nat.le_of_ble_eq_true rfl) (Nat.le_of_ble_eq_true rfl) f16.1 ?_
      refine EvM.mono k (fun r18 h17 k => ?_)
      obtain ⟨rfl, k⟩ := k
      show Ev w _ _ _ 62 _ [] _ _
      exact Ev.vret (am_dt kX5_line 31 rfl) rfl k
    · have k := k.1 c
      refine Ev.aload_n 0 (am_dt kX5_line 22 rfl) rfl rfl ?_
      obtain ⟨f7, k⟩ := k
      refine Ev.callV (ci := 5) (v := mX5_personLine) (As := []) (st := []) okX5_personLine wd_128 wd_129 wd_130 (am_dt kX5_line 23 rfl) (by decide) rfl rfl (Nat.le_of_ble_eq_true rfl) (Nat.le_of_ble_eq_true rfl) f7.1 ?_
      refine EvM.mono k (fun r9 h8 k => ?_)
      obtain ⟨rfl, k⟩ := k
      show Ev w _ _ _ 48 _ [] _ _
      refine Ev.goto (tgt := 56) (am_dt kX5_line 24 rfl) (by decide) ?_
      refine Ev.aload_n 0 (am_dt kX5_line 28 rfl) rfl rfl ?_
      refine Ev.bipush (v := 59) (am_dt kX5_line 29 rfl) (by decide) ?_
      obtain ⟨f10, k⟩ := k
      refine Ev.callV (ci := 5) (v := mX5_expect) (As := [.int 59]) (st := []) okX5_expect wd_122 wd_123 wd_124 (am_dt kX5_line 30 rfl) (by decide) rfl rfl (Nat.le_of_ble_eq_true rfl) (Nat.le_of_ble_eq_true rfl) f10.1 ?_
      refine EvM.mono k (fun r12 h11 k => ?_)
      obtain ⟨rfl, k⟩ := k
      show Ev w _ _ _ 62 _ [] _ _
      exact Ev.vret (am_dt kX5_line 31 rfl) rfl k
  · have k := k.1 c
    refine Ev.aload_n 0 (am_dt kX5_line 16 rfl) rfl rfl ?_
    obtain ⟨f1, k⟩ := k
    refine Ev.callV (ci := 5) (v := mX5_lawLine) (As := []) (st := []) okX5_lawLine wd_125 wd_126 wd_127 (am_dt kX5_line 17 rfl) (by decide) rfl rfl (Nat.le_of_ble_eq_true rfl) (Nat.le_of_ble_eq_true rfl) f1.1 ?_
    refine EvM.mono k (fun r3 h2 k => ?_)
    obtain ⟨rfl, k⟩ := k
    show Ev w _ _ _ 35 _ [] _ _
    refine Ev.goto (tgt := 56) (am_dt kX5_line 18 rfl) (by decide) ?_
    refine Ev.aload_n 0 (am_dt kX5_line 28 rfl) rfl rfl ?_
    refine Ev.bipush (v := 59) (am_dt kX5_line 29 rfl) (by decide) ?_
    obtain ⟨f4, k⟩ := k
    refine Ev.callV (ci := 5) (v := mX5_expect) (As := [.int 59]) (st := []) okX5_expect wd_122 wd_123 wd_124 (am_dt kX5_line 30 rfl) (by decide) rfl rfl (Nat.le_of_ble_eq_true rfl) (Nat.le_of_ble_eq_true rfl) f4.1 ?_
    refine EvM.mono k (fun r6 h5 k => ?_)
    obtain ⟨rfl, k⟩ := k
    show Ev w _ _ _ 62 _ [] _ _
    exact Ev.vret (am_dt kX5_line 31 rfl) rfl k
set_option maxRecDepth 20000 in
set_option maxHeartbeats 2000000 in
theorem bX5_lineToldOnce_0 {w : am_W} {d : Nat} {h : am_H} {Q : Option Value → am_H → Prop} {a0 : Nat} {x1 : Int32}  (k : (am_L 5 a0 h) ∧ ((((hI h a0 7) &&& ((1 : Int32) <<< ((x1 - 64) &&& 31))) = 0 → (∀ h2 : am_H, h2 = sI h a0 7 ((hI h a0 7) ||| ((1 : Int32) <<< ((x1 - 64) &&& 31))) → (EvM w mX5_step d [.ref a0] h2 (fun r4 h3 => r4 = none ∧ ((x1 = 64 → ((am_L 5 a0 h3) ∧ ((hR h3 a0 3 ≠ 0) ∧ (EvM w mX5_number d [.ref a0, .int 1, .int 40] h3 (fun r8 h7 => ∃ v9 : Int32, r8 = some (.int v9) ∧ ((am_L 6 (hR h3 a0 3) h7) ∧ (∀ h11 : am_H, h11 = sI h7 (hR h3 a0 3) 6 v9 → (Q none h11)))))))) ∧ (¬ x1 = 64 → ((x1 = 65 → ((am_L 5 a0 h3) ∧ ((hR h3 a0 3 ≠ 0) ∧ (EvM w mX5_number d [.ref a0, .int 0, .int 99] h3 (fun r15 h14 => ∃ v16 : Int32, r15 = some (.int v16) ∧ ((am_L 6 (hR h3 a0 3) h14) ∧ (∀ h18 : am_H, h18 = sI h14 (hR h3 a0 3) 7 v16 → (Q none h18)))))))) ∧ (¬ x1 = 65 → ((x1 = 66 → ((am_L 5 a0 h3) ∧ ((hR h3 a0 3 ≠ 0) ∧ (EvM w mX5_number d [.ref a0, .int 1, .int 2] h3 (fun r22 h21 => ∃ v23 : Int32, r22 = some (.int v23) ∧ ((am_L 6 (hR h3 a0 3) h21) ∧ (∀ h25 : am_H, h25 = sI h21 (hR h3 a0 3) 8 v23 → (Q none h25)))))))) ∧ (¬ x1 = 66 → ((x1 = 67 → ((am_L 5 a0 h3) ∧ ((hR h3 a0 3 ≠ 0) ∧ (EvM w mX5_number d [.ref a0, .int 1, .int 8] h3 (fun r29 h28 => ∃ v30 : Int32, r29 = some (.int v30) ∧ ((am_L 6 (hR h3 a0 3) h28) ∧ (∀ h32 : am_H, h32 = sI h28 (hR h3 a0 3) 9 v30 → ((am_L 5 a0 h32) ∧ (EvM w mX5_expect d [.ref a0, .int 71] h32 (fun r35 h34 => r35 = none ∧ ((am_L 5 a0 h34) ∧ ((hR h34 a0 3 ≠ 0) ∧ ((am_L 6 (hR h34 a0 3) h34) ∧ (EvM w mX5_number d [.ref a0, .int ((hI h34 (hR h34 a0 3) 9) + 1), .int 9] h34 (fun r40 h39 => ∃ v41 : Int32, r40 = some (.int v41) ∧ ((am_L 6 (hR h34 a0 3) h39) ∧ (∀ h43 : am_H, h43 = sI h39 (hR h34 a0 3) 10 v41 → (Q none h43)))))))))))))))))) ∧ (¬ x1 = 67 → ((am_L 5 a0 h3) ∧ ((hR h3 a0 3 ≠ 0) ∧ (EvM w mX5_number d [.ref a0, .int 0, .int 1000] h3 (fun r47 h46 => ∃ v48 : Int32, r47 = some (.int v48) ∧ ((am_L 6 (hR h3 a0 3) h46) ∧ (∀ h50 : am_H, h50 = sI h46 (hR h3 a0 3) 11 v48 → (Q none h50))))))))))))))))))) ∧ (¬ ((hI h a0 7) &&& ((1 : Int32) <<< ((x1 - 64) &&& 31))) = 0 → (EvM w mX5_wrong d [.ref a0, .int 3] h (fun r52 h51 => r52 = none ∧ (Q none h51)))))) : EvM w mX5_lineToldOnce (d + 1) [.ref a0, .int x1] h Q := by
  show Ev w (am_Z w) mX5_lineToldOnce (d + 1) 0 [(0, .ref a0), (1, .int x1)] [] h Q
  refine Ev.iconst (v := 1) (am_dt kX5_lineToldOnce 0 rfl) (by decide) ?_
  refine Ev.iload_n 1 (am_dt kX5_lineToldOnce 1 rfl) rfl rfl ?_
  refine Ev.bipush (v := 64) (am_dt kX5_lineToldOnce 2 rfl) (by decide) ?_
  refine Ev.isub (am_dt kX5_lineToldOnce 3 rfl) ?_
  refine Ev.ishl (am_dt kX5_lineToldOnce 4 rfl) ?_
  refine Ev.istore_n (lv' := [(2, .int ((1 : Int32) <<< ((x1 - 64) &&& 31))), (0, .ref a0), (1, .int x1)]) (am_dt kX5_lineToldOnce 5 rfl) rfl (by decide) rfl ?_
  refine Ev.aload_n 1 (am_dt kX5_lineToldOnce 6 rfl) rfl rfl ?_
  obtain ⟨f1, k⟩ := k
  refine Ev.getI (ci := 5) (k := 7) (am_dt kX5_lineToldOnce 7 rfl) (by decide) (by decide) rfl wd_131 f1.1 ?_
  refine Ev.iload_n 0 (am_dt kX5_lineToldOnce 8 rfl) rfl rfl ?_
  refine Ev.iand (am_dt kX5_lineToldOnce 9 rfl) ?_
  refine Ev.if_eq (tgt := 22) (am_dt kX5_lineToldOnce 10 rfl) (by decide) (fun c => ?_) (fun c => ?_)
  · have k := k.1 c
    refine Ev.aload_n 1 (am_dt kX5_lineToldOnce 15 rfl) rfl rfl ?_
    refine Ev.dup (am_dt kX5_lineToldOnce 16 rfl) rfl ?_
    refine Ev.getI (ci := 5) (k := 7) (am_dt kX5_lineToldOnce 17 rfl) (by decide) (by decide) rfl wd_131 f1.1 ?_
    refine Ev.iload_n 0 (am_dt kX5_lineToldOnce 18 rfl) rfl rfl ?_
    refine Ev.ior (am_dt kX5_lineToldOnce 19 rfl) ?_
    refine Ev.putI' (ci := 5) (k := 7) (am_dt kX5_lineToldOnce 20 rfl) (by decide) (by decide) wd_131 rfl rfl rfl rfl f1.1 (fun h2 eh2 => ?_)
    have k := k h2 eh2
    have f1 := am_LsI eh2 f1
    refine Ev.aload_n 1 (am_dt kX5_lineToldOnce 21 rfl) rfl rfl ?_
    refine Ev.callV (ci := 5) (v := mX5_step) (As := []) (st := []) okX5_step wd_110 wd_111 wd_112 (am_dt kX5_lineToldOnce 22 rfl) (by decide) rfl rfl (Nat.le_of_ble_eq_true rfl) (Nat.le_of_ble_eq_true rfl) f1.1 ?_
    refine EvM.mono k (fun r4 h3 k => ?_)
    obtain ⟨rfl, k⟩ := k
    show Ev w _ _ _ 36 _ [] _ _
    refine Ev.iload_n 2 (am_dt kX5_lineToldOnce 23 rfl) rfl rfl ?_
    by_cases c : x1 = 64
    · refine Ev.tableIn (off := 31) (tgt := 68) (am_dt kX5_lineToldOnce 24 rfl) (by rw [c]; decide) (by rw [c]; decide) (by rw [c]; rfl) (by decide) ?_
      have k := k.1 c
      refine Ev.aload_n 1 (am_dt kX5_lineToldOnce 25 rfl) rfl rfl ?_
      obtain ⟨f5, k⟩ := k
      obtain ⟨f6, k⟩ := k
      refine Ev.getR (ci := 5) (k := 3) (am_dt kX5_lineToldOnce 26 rfl) (by decide) (by decide) rfl wd_100 f5.1 f6 ?_
      refine Ev.aload_n 1 (am_dt kX5_lineToldOnce 27 rfl) rfl rfl ?_
      refine Ev.iconst (v := 1) (am_dt kX5_lineToldOnce 28 rfl) (by decide) ?_
      refine Ev.bipush (v := 40) (am_dt kX5_lineToldOnce 29 rfl) (by decide) ?_
      refine Ev.callV (ci := 5) (v := mX5_number) (As := [.int 1, .int 40]) (st := [.ref (hR h3 a0 3)]) okX5_number wd_132 wd_133 wd_134 (am_dt kX5_lineToldOnce 30 rfl) (by decide) rfl rfl (Nat.le_of_ble_eq_true rfl) (Nat.le_of_ble_eq_true rfl) f5.1 ?_
      refine EvM.mono k (fun r8 h7 k => ?_)
      obtain ⟨v9, rfl, k⟩ := k
      show Ev w _ _ _ 79 _ [.int v9, .ref (hR h3 a0 3)] _ _
      obtain ⟨f10, k⟩ := k
      refine Ev.putI' (ci := 6) (k := 6) (am_dt kX5_lineToldOnce 31 rfl) (by decide) (by decide) wd_135 rfl rfl rfl rfl f10.1 (fun h11 eh11 => ?_)
      have k := k h11 eh11
      have f10 := am_LsI eh11 f10
      refine Ev.goto (tgt := 178) (am_dt kX5_lineToldOnce 32 rfl) (by decide) ?_
      exact Ev.vret (am_dt kX5_lineToldOnce 78 rfl) rfl k
    have k := k.2 c
    have c64 := am_ne (n := 64) (by decide) c
    clear c
    by_cases c : x1 = 65
    · refine Ev.tableIn (off := 48) (tgt := 85) (am_dt kX5_lineToldOnce 24 rfl) (by rw [c]; decide) (by rw [c]; decide) (by rw [c]; rfl) (by decide) ?_
      have k := k.1 c
      refine Ev.aload_n 1 (am_dt kX5_lineToldOnce 33 rfl) rfl rfl ?_
      obtain ⟨f12, k⟩ := k
      obtain ⟨f13, k⟩ := k
      refine Ev.getR (ci := 5) (k := 3) (am_dt kX5_lineToldOnce 34 rfl) (by decide) (by decide) rfl wd_100 f12.1 f13 ?_
      refine Ev.aload_n 1 (am_dt kX5_lineToldOnce 35 rfl) rfl rfl ?_
      refine Ev.iconst (v := 0) (am_dt kX5_lineToldOnce 36 rfl) (by decide) ?_
      refine Ev.bipush (v := 99) (am_dt kX5_lineToldOnce 37 rfl) (by decide) ?_
      refine Ev.callV (ci := 5) (v := mX5_number) (As := [.int 0, .int 99]) (st := [.ref (hR h3 a0 3)]) okX5_number wd_132 wd_133 wd_134 (am_dt kX5_lineToldOnce 38 rfl) (by decide) rfl rfl (Nat.le_of_ble_eq_true rfl) (Nat.le_of_ble_eq_true rfl) f12.1 ?_
      refine EvM.mono k (fun r15 h14 k => ?_)
      obtain ⟨v16, rfl, k⟩ := k
      show Ev w _ _ _ 96 _ [.int v16, .ref (hR h3 a0 3)] _ _
      obtain ⟨f17, k⟩ := k
      refine Ev.putI' (ci := 6) (k := 7) (am_dt kX5_lineToldOnce 39 rfl) (by decide) (by decide) wd_136 rfl rfl rfl rfl f17.1 (fun h18 eh18 => ?_)
      have k := k h18 eh18
      have f17 := am_LsI eh18 f17
      refine Ev.goto (tgt := 178) (am_dt kX5_lineToldOnce 40 rfl) (by decide) ?_
      exact Ev.vret (am_dt kX5_lineToldOnce 78 rfl) rfl k
    have k := k.2 c
    have c65 := am_ne (n := 65) (by decide) c
    clear c
    by_cases c : x1 = 66
    · refine Ev.tableIn (off := 65) (tgt := 102) (am_dt kX5_lineToldOnce 24 rfl) (by rw [c]; decide) (by rw [c]; decide) (by rw [c]; rfl) (by decide) ?_
      have k := k.1 c
      refine Ev.aload_n 1 (am_dt kX5_lineToldOnce 41 rfl) rfl rfl ?_
      obtain ⟨f19, k⟩ := k
      obtain ⟨f20, k⟩ := k
      refine Ev.getR (ci := 5) (k := 3) (am_dt kX5_lineToldOnce 42 rfl) (by decide) (by decide) rfl wd_100 f19.1 f20 ?_
      refine Ev.aload_n 1 (am_dt kX5_lineToldOnce 43 rfl) rfl rfl ?_
      refine Ev.iconst (v := 1) (am_dt kX5_lineToldOnce 44 rfl) (by decide) ?_
      refine Ev.iconst (v := 2) (am_dt kX5_lineToldOnce 45 rfl) (by decide) ?_
      refine Ev.callV (ci := 5) (v := mX5_number) (As := [.int 1, .int 2]) (st := [.ref (hR h3 a0 3)]) okX5_number wd_132 wd_133 wd_134 (am_dt kX5_lineToldOnce 46 rfl) (by decide) rfl rfl (Nat.le_of_ble_eq_true rfl) (Nat.le_of_ble_eq_true rfl) f19.1 ?_
      refine EvM.mono k (fun r22 h21 k => ?_)
      obtain ⟨v23, rfl, k⟩ := k
      show Ev w _ _ _ 112 _ [.int v23, .ref (hR h3 a0 3)] _ _
      obtain ⟨f24, k⟩ := k
      refine Ev.putI' (ci := 6) (k := 8) (am_dt kX5_lineToldOnce 47 rfl) (by decide) (by decide) wd_137 rfl rfl rfl rfl f24.1 (fun h25 eh25 => ?_)
      have k := k h25 eh25
      have f24 := am_LsI eh25 f24
      refine Ev.goto (tgt := 178) (am_dt kX5_lineToldOnce 48 rfl) (by decide) ?_
      exact Ev.vret (am_dt kX5_lineToldOnce 78 rfl) rfl k
    have k := k.2 c
    have c66 := am_ne (n := 66) (by decide) c
    clear c
    by_cases c : x1 = 67
    · refine Ev.tableIn (off := 81) (tgt := 118) (am_dt kX5_lineToldOnce 24 rfl) (by rw [c]; decide) (by rw [c]; decide) (by rw [c]; rfl) (by decide) ?_
      have k := k.1 c
      refine Ev.aload_n 1 (am_dt kX5_lineToldOnce 49 rfl) rfl rfl ?_
      obtain ⟨f26, k⟩ := k
      obtain ⟨f27, k⟩ := k
      refine Ev.getR (ci := 5) (k := 3) (am_dt kX5_lineToldOnce 50 rfl) (by decide) (by decide) rfl wd_100 f26.1 f27 ?_
      refine Ev.aload_n 1 (am_dt kX5_lineToldOnce 51 rfl) rfl rfl ?_
      refine Ev.iconst (v := 1) (am_dt kX5_lineToldOnce 52 rfl) (by decide) ?_
      refine Ev.bipush (v := 8) (am_dt kX5_lineToldOnce 53 rfl) (by decide) ?_
      refine Ev.callV (ci := 5) (v := mX5_number) (As := [.int 1, .int 8]) (st := [.ref (hR h3 a0 3)]) okX5_number wd_132 wd_133 wd_134 (am_dt kX5_lineToldOnce 54 rfl) (by decide) rfl rfl (Nat.le_of_ble_eq_true rfl) (Nat.le_of_ble_eq_true rfl) f26.1 ?_
      refine EvM.mono k (fun r29 h28 k => ?_)
      obtain ⟨v30, rfl, k⟩ := k
      show Ev w _ _ _ 129 _ [.int v30, .ref (hR h3 a0 3)] _ _
      obtain ⟨f31, k⟩ := k
      refine Ev.putI' (ci := 6) (k := 9) (am_dt kX5_lineToldOnce 55 rfl) (by decide) (by decide) wd_138 rfl rfl rfl rfl f31.1 (fun h32 eh32 => ?_)
      have k := k h32 eh32
      have f31 := am_LsI eh32 f31
      refine Ev.aload_n 1 (am_dt kX5_lineToldOnce 56 rfl) rfl rfl ?_
      refine Ev.bipush (v := 71) (am_dt kX5_lineToldOnce 57 rfl) (by decide) ?_
      obtain ⟨f33, k⟩ := k
      refine Ev.callV (ci := 5) (v := mX5_expect) (As := [.int 71]) (st := []) okX5_expect wd_122 wd_123 wd_124 (am_dt kX5_lineToldOnce 58 rfl) (by decide) rfl rfl (Nat.le_of_ble_eq_true rfl) (Nat.le_of_ble_eq_true rfl) f33.1 ?_
      refine EvM.mono k (fun r35 h34 k => ?_)
      obtain ⟨rfl, k⟩ := k
      show Ev w _ _ _ 138 _ [] _ _
      refine Ev.aload_n 1 (am_dt kX5_lineToldOnce 59 rfl) rfl rfl ?_
      obtain ⟨f36, k⟩ := k
      obtain ⟨f37, k⟩ := k
      refine Ev.getR (ci := 5) (k := 3) (am_dt kX5_lineToldOnce 60 rfl) (by decide) (by decide) rfl wd_100 f36.1 f37 ?_
      refine Ev.aload_n 1 (am_dt kX5_lineToldOnce 61 rfl) rfl rfl ?_
      refine Ev.aload_n 1 (am_dt kX5_lineToldOnce 62 rfl) rfl rfl ?_
      refine Ev.getR (ci := 5) (k := 3) (am_dt kX5_lineToldOnce 63 rfl) (by decide) (by decide) rfl wd_100 f36.1 f37 ?_
      obtain ⟨f38, k⟩ := k
      refine Ev.getI (ci := 6) (k := 9) (am_dt kX5_lineToldOnce 64 rfl) (by decide) (by decide) rfl wd_138 f38.1 ?_
      refine Ev.iconst (v := 1) (am_dt kX5_lineToldOnce 65 rfl) (by decide) ?_
      refine Ev.iadd (am_dt kX5_lineToldOnce 66 rfl) ?_
      refine Ev.bipush (v := 9) (am_dt kX5_lineToldOnce 67 rfl) (by decide) ?_
      refine Ev.callV (ci := 5) (v := mX5_number) (As := [.int ((hI h34 (hR h34 a0 3) 9) + 1), .int 9]) (st := [.ref (hR h34 a0 3)]) okX5_number wd_132 wd_133 wd_134 (am_dt kX5_lineToldOnce 68 rfl) (by decide) rfl rfl (Nat.le_of_ble_eq_true rfl) (Nat.le_of_ble_eq_true rfl) f36.1 ?_
      refine EvM.mono k (fun r40 h39 k => ?_)
      obtain ⟨v41, rfl, k⟩ := k
      show Ev w _ _ _ 157 _ [.int v41, .ref (hR h34 a0 3)] _ _
      obtain ⟨f42, k⟩ := k
      refine Ev.putI' (ci := 6) (k := 10) (am_dt kX5_lineToldOnce 69 rfl) (by decide) (by decide) wd_139 rfl rfl rfl rfl f42.1 (fun h43 eh43 => ?_)
      have k := k h43 eh43
      have f42 := am_LsI eh43 f42
      refine Ev.goto (tgt := 178) (am_dt kX5_lineToldOnce 70 rfl) (by decide) ?_
      exact Ev.vret (am_dt kX5_lineToldOnce 78 rfl) rfl k
    have k := k.2 c
    have c67 := am_ne (n := 67) (by decide) c
    clear c
    refine Ev.tableOut (tgt := 163) (am_dt kX5_lineToldOnce 24 rfl) (by omega) (by decide) ?_
    refine Ev.aload_n 1 (am_dt kX5_lineToldOnce 71 rfl) rfl rfl ?_
    obtain ⟨f44, k⟩ := k
    obtain ⟨f45, k⟩ := k
    refine Ev.getR (ci := 5) (k := 3) (am_dt kX5_lineToldOnce 72 rfl) (by decide) (by decide) rfl wd_100 f44.1 f45 ?_
    refine Ev.aload_n 1 (am_dt kX5_lineToldOnce 73 rfl) rfl rfl ?_
    refine Ev.iconst (v := 0) (am_dt kX5_lineToldOnce 74 rfl) (by decide) ?_
    refine Ev.sipush (v := 1000) (am_dt kX5_lineToldOnce 75 rfl) (by decide) ?_
    refine Ev.callV (ci := 5) (v := mX5_number) (As := [.int 0, .int 1000]) (st := [.ref (hR h3 a0 3)]) okX5_number wd_132 wd_133 wd_134 (am_dt kX5_lineToldOnce 76 rfl) (by decide) rfl rfl (Nat.le_of_ble_eq_true rfl) (Nat.le_of_ble_eq_true rfl) f44.1 ?_
    refine EvM.mono k (fun r47 h46 k => ?_)
    obtain ⟨v48, rfl, k⟩ := k
    show Ev w _ _ _ 175 _ [.int v48, .ref (hR h3 a0 3)] _ _
    obtain ⟨f49, k⟩ := k
    refine Ev.putI' (ci := 6) (k := 11) (am_dt kX5_lineToldOnce 77 rfl) (by decide) (by decide) wd_140 rfl rfl rfl rfl f49.1 (fun h50 eh50 => ?_)
    have k := k h50 eh50
    have f49 := am_LsI eh50 f49
    exact Ev.vret (am_dt kX5_lineToldOnce 78 rfl) rfl k
  · have k := k.2 c
    refine Ev.aload_n 1 (am_dt kX5_lineToldOnce 11 rfl) rfl rfl ?_
    refine Ev.iconst (v := 3) (am_dt kX5_lineToldOnce 12 rfl) (by decide) ?_
    refine Ev.callV (ci := 5) (v := mX5_wrong) (As := [.int 3]) (st := []) okX5_wrong wd_113 wd_114 wd_115 (am_dt kX5_lineToldOnce 13 rfl) (by decide) rfl rfl (Nat.le_of_ble_eq_true rfl) (Nat.le_of_ble_eq_true rfl) f1.1 ?_
    refine EvM.mono k (fun r52 h51 k => ?_)
    obtain ⟨rfl, k⟩ := k
    show Ev w _ _ _ 21 _ [] _ _
    exact Ev.vret (am_dt kX5_lineToldOnce 14 rfl) rfl k
set_option maxRecDepth 20000 in
set_option maxHeartbeats 2000000 in
theorem bX5_personLine_0 {w : am_W} {d : Nat} {h : am_H} {Q : Option Value → am_H → Prop} {a0 : Nat}  (k : (am_L 5 a0 h) ∧ ((hR h a0 3 ≠ 0) ∧ ((am_L 6 (hR h a0 3) h) ∧ ((am_L 2 ((hR h a0 3) + 1) h) ∧ (((hI h ((hR h a0 3) + 1) 5) < 16 → (EvM w mX5_step d [.ref a0] h (fun r6 h5 => r6 = none ∧ ((am_L 5 a0 h5) ∧ (EvM w mX5_name d [.ref a0] h5 (fun r9 h8 => r9 = none ∧ ((am_L 5 a0 h8) ∧ (EvM w mX5_sideWord d [.ref a0] h8 (fun r12 h11 => ∃ v13 : Int32, r12 = some (.int v13) ∧ ((am_L 5 a0 h11) ∧ (EvM w mX5_expect d [.ref a0, .int 72] h11 (fun r16 h15 => r16 = none ∧ ((am_L 5 a0 h15) ∧ (EvM w mX5_number d [.ref a0, .int 0, .int 1439] h15 (fun r19 h18 => ∃ v20 : Int32, r19 = some (.int v20) ∧ ((am_L 5 a0 h18) ∧ (EvM w mX5_expect d [.ref a0, .int 73] h18 (fun r23 h22 => r23 = none ∧ ((am_L 5 a0 h22) ∧ (EvM w mX5_number d [.ref a0, .int 0, .int 999] h22 (fun r26 h25 => ∃ v27 : Int32, r26 = some (.int v27) ∧ ((am_L 5 a0 h25) ∧ (EvM w mX5_expect d [.ref a0, .int 74] h25 (fun r30 h29 => r30 = none ∧ ((am_L 5 a0 h29) ∧ (EvM w mX5_number d [.ref a0, .int 0, .int 99] h29 (fun r33 h32 => ∃ v34 : Int32, r33 = some (.int v34) ∧ ((am_L 5 a0 h32) ∧ (EvM w mX5_kindWord d [.ref a0] h32 (fun r37 h36 => ∃ v38 : Int32, r37 = some (.int v38) ∧ ((am_L 5 a0 h36) ∧ (((hI h36 a0 6) = 0 → ((hR h36 a0 3 ≠ 0) ∧ ((am_L 6 (hR h36 a0 3) h36) ∧ (EvM w mX6_addPerson d [.ref (hR h36 a0 3), .int v38, .int v13, .int v20, .int v27, .int v34] h36 (fun r43 h42 => r43 = none ∧ (Q none h42)))))) ∧ (¬ (hI h36 a0 6) = 0 → (Q none h36)))))))))))))))))))))))))))))))))) ∧ (¬ (hI h ((hR h a0 3) + 1) 5) < 16 → (EvM w mX5_wrong d [.ref a0, .int 5] h (fun r45 h44 => r45 = none ∧ (Q none h44))))))))) : EvM w mX5_personLine (d + 1) [.ref a0] h Q := by
  show Ev w (am_Z w) mX5_personLine (d + 1) 0 [(0, .ref a0)] [] h Q
  refine Ev.aload_n 0 (am_dt kX5_personLine 0 rfl) rfl rfl ?_
  obtain ⟨f1, k⟩ := k
  obtain ⟨f2, k⟩ := k
  refine Ev.getR (ci := 5) (k := 3) (am_dt kX5_personLine 1 rfl) (by decide) (by decide) rfl wd_100 f1.1 f2 ?_
  obtain ⟨f3, k⟩ := k
  refine Ev.getRe (ci := 6) (k := 0) (r := (hR h a0 3) + 1) (am_dt kX5_personLine 2 rfl) (by decide) (by decide) rfl wd_141 f3.1 (am_L.r f3 0 rfl) (by omega) ?_
  obtain ⟨f4, k⟩ := k
  refine Ev.getI (ci := 2) (k := 5) (am_dt kX5_personLine 3 rfl) (by decide) (by decide) rfl wd_142 f4.1 ?_
  refine Ev.bipush (v := 16) (am_dt kX5_personLine 4 rfl) (by decide) ?_
  refine Ev.icmp_lt (tgt := 21) (am_dt kX5_personLine 5 rfl) (by decide) (fun c => ?_) (fun c => ?_)
  · have k := k.1 c
    refine Ev.aload_n 0 (am_dt kX5_personLine 10 rfl) rfl rfl ?_
    refine Ev.callV (ci := 5) (v := mX5_step) (As := []) (st := []) okX5_step wd_110 wd_111 wd_112 (am_dt kX5_personLine 11 rfl) (by decide) rfl rfl (Nat.le_of_ble_eq_true rfl) (Nat.le_of_ble_eq_true rfl) f1.1 ?_
    refine EvM.mono k (fun r6 h5 k => ?_)
    obtain ⟨rfl, k⟩ := k
    show Ev w _ _ _ 25 _ [] _ _
    refine Ev.aload_n 0 (am_dt kX5_personLine 12 rfl) rfl rfl ?_
    obtain ⟨f7, k⟩ := k
    refine Ev.callV (ci := 5) (v := mX5_name) (As := []) (st := []) okX5_name wd_143 wd_144 wd_145 (am_dt kX5_personLine 13 rfl) (by decide) rfl rfl (Nat.le_of_ble_eq_true rfl) (Nat.le_of_ble_eq_true rfl) f7.1 ?_
    refine EvM.mono k (fun r9 h8 k => ?_)
    obtain ⟨rfl, k⟩ := k
    show Ev w _ _ _ 29 _ [] _ _
    refine Ev.aload_n 0 (am_dt kX5_personLine 14 rfl) rfl rfl ?_
    obtain ⟨f10, k⟩ := k
    refine Ev.callV (ci := 5) (v := mX5_sideWord) (As := []) (st := []) okX5_sideWord wd_146 wd_147 wd_148 (am_dt kX5_personLine 15 rfl) (by decide) rfl rfl (Nat.le_of_ble_eq_true rfl) (Nat.le_of_ble_eq_true rfl) f10.1 ?_
    refine EvM.mono k (fun r12 h11 k => ?_)
    obtain ⟨v13, rfl, k⟩ := k
    show Ev w _ _ _ 33 _ [.int v13] _ _
    refine Ev.istore_n (lv' := [(1, .int v13), (0, .ref a0)]) (am_dt kX5_personLine 16 rfl) rfl (by decide) rfl ?_
    refine Ev.aload_n 1 (am_dt kX5_personLine 17 rfl) rfl rfl ?_
    refine Ev.bipush (v := 72) (am_dt kX5_personLine 18 rfl) (by decide) ?_
    obtain ⟨f14, k⟩ := k
    refine Ev.callV (ci := 5) (v := mX5_expect) (As := [.int 72]) (st := []) okX5_expect wd_122 wd_123 wd_124 (am_dt kX5_personLine 19 rfl) (by decide) rfl rfl (Nat.le_of_ble_eq_true rfl) (Nat.le_of_ble_eq_true rfl) f14.1 ?_
    refine EvM.mono k (fun r16 h15 k => ?_)
    obtain ⟨rfl, k⟩ := k
    show Ev w _ _ _ 40 _ [] _ _
    refine Ev.aload_n 1 (am_dt kX5_personLine 20 rfl) rfl rfl ?_
    refine Ev.iconst (v := 0) (am_dt kX5_personLine 21 rfl) (by decide) ?_
    refine Ev.sipush (v := 1439) (am_dt kX5_personLine 22 rfl) (by decide) ?_
    obtain ⟨f17, k⟩ := k
    refine Ev.callV (ci := 5) (v := mX5_number) (As := [.int 0, .int 1439]) (st := []) okX5_number wd_132 wd_133 wd_134 (am_dt kX5_personLine 23 rfl) (by decide) rfl rfl (Nat.le_of_ble_eq_true rfl) (Nat.le_of_ble_eq_true rfl) f17.1 ?_
    refine EvM.mono k (fun r19 h18 k => ?_)
    obtain ⟨v20, rfl, k⟩ := k
    show Ev w _ _ _ 48 _ [.int v20] _ _
    refine Ev.istore_n (lv' := [(2, .int v20), (1, .int v13), (0, .ref a0)]) (am_dt kX5_personLine 24 rfl) rfl (by decide) rfl ?_
    refine Ev.aload_n 2 (am_dt kX5_personLine 25 rfl) rfl rfl ?_
    refine Ev.bipush (v := 73) (am_dt kX5_personLine 26 rfl) (by decide) ?_
    obtain ⟨f21, k⟩ := k
    refine Ev.callV (ci := 5) (v := mX5_expect) (As := [.int 73]) (st := []) okX5_expect wd_122 wd_123 wd_124 (am_dt kX5_personLine 27 rfl) (by decide) rfl rfl (Nat.le_of_ble_eq_true rfl) (Nat.le_of_ble_eq_true rfl) f21.1 ?_
    refine EvM.mono k (fun r23 h22 k => ?_)
    obtain ⟨rfl, k⟩ := k
    show Ev w _ _ _ 55 _ [] _ _
    refine Ev.aload_n 2 (am_dt kX5_personLine 28 rfl) rfl rfl ?_
    refine Ev.iconst (v := 0) (am_dt kX5_personLine 29 rfl) (by decide) ?_
    refine Ev.sipush (v := 999) (am_dt kX5_personLine 30 rfl) (by decide) ?_
    obtain ⟨f24, k⟩ := k
    refine Ev.callV (ci := 5) (v := mX5_number) (As := [.int 0, .int 999]) (st := []) okX5_number wd_132 wd_133 wd_134 (am_dt kX5_personLine 31 rfl) (by decide) rfl rfl (Nat.le_of_ble_eq_true rfl) (Nat.le_of_ble_eq_true rfl) f24.1 ?_
    refine EvM.mono k (fun r26 h25 k => ?_)
    obtain ⟨v27, rfl, k⟩ := k
    show Ev w _ _ _ 63 _ [.int v27] _ _
    refine Ev.istore_n (lv' := [(3, .int v27), (2, .int v20), (1, .int v13), (0, .ref a0)]) (am_dt kX5_personLine 32 rfl) rfl (by decide) rfl ?_
    refine Ev.aload_n 3 (am_dt kX5_personLine 33 rfl) rfl rfl ?_
    refine Ev.bipush (v := 74) (am_dt kX5_personLine 34 rfl) (by decide) ?_
    obtain ⟨f28, k⟩ := k
    refine Ev.callV (ci := 5) (v := mX5_expect) (As := [.int 74]) (st := []) okX5_expect wd_122 wd_123 wd_124 (am_dt kX5_personLine 35 rfl) (by decide) rfl rfl (Nat.le_of_ble_eq_true rfl) (Nat.le_of_ble_eq_true rfl) f28.1 ?_
    refine EvM.mono k (fun r30 h29 k => ?_)
    obtain ⟨rfl, k⟩ := k
    show Ev w _ _ _ 70 _ [] _ _
    refine Ev.aload_n 3 (am_dt kX5_personLine 36 rfl) rfl rfl ?_
    refine Ev.iconst (v := 0) (am_dt kX5_personLine 37 rfl) (by decide) ?_
    refine Ev.bipush (v := 99) (am_dt kX5_personLine 38 rfl) (by decide) ?_
    obtain ⟨f31, k⟩ := k
    refine Ev.callV (ci := 5) (v := mX5_number) (As := [.int 0, .int 99]) (st := []) okX5_number wd_132 wd_133 wd_134 (am_dt kX5_personLine 39 rfl) (by decide) rfl rfl (Nat.le_of_ble_eq_true rfl) (Nat.le_of_ble_eq_true rfl) f31.1 ?_
    refine EvM.mono k (fun r33 h32 k => ?_)
    obtain ⟨v34, rfl, k⟩ := k
    show Ev w _ _ _ 77 _ [.int v34] _ _
    refine Ev.istore (lv' := [(4, .int v34), (3, .int v27), (2, .int v20), (1, .int v13), (0, .ref a0)]) (am_dt kX5_personLine 40 rfl) (by decide) rfl ?_
    refine Ev.aload_n 4 (am_dt kX5_personLine 41 rfl) rfl rfl ?_
    obtain ⟨f35, k⟩ := k
    refine Ev.callV (ci := 5) (v := mX5_kindWord) (As := []) (st := []) okX5_kindWord wd_149 wd_150 wd_151 (am_dt kX5_personLine 42 rfl) (by decide) rfl rfl (Nat.le_of_ble_eq_true rfl) (Nat.le_of_ble_eq_true rfl) f35.1 ?_
    refine EvM.mono k (fun r37 h36 k => ?_)
    obtain ⟨v38, rfl, k⟩ := k
    show Ev w _ _ _ 83 _ [.int v38] _ _
    refine Ev.istore (lv' := [(5, .int v38), (4, .int v34), (3, .int v27), (2, .int v20), (1, .int v13), (0, .ref a0)]) (am_dt kX5_personLine 43 rfl) (by decide) rfl ?_
    refine Ev.aload_n 5 (am_dt kX5_personLine 44 rfl) rfl rfl ?_
    obtain ⟨f39, k⟩ := k
    refine Ev.getI (ci := 5) (k := 6) (am_dt kX5_personLine 45 rfl) (by decide) (by decide) rfl wd_105 f39.1 ?_
    refine Ev.if_ne (tgt := 106) (am_dt kX5_personLine 46 rfl) (by decide) (fun c => ?_) (fun c => ?_)
    · have k := k.2 c
      exact Ev.vret (am_dt kX5_personLine 55 rfl) rfl k
    · have k := k.1 c
      refine Ev.aload_n 5 (am_dt kX5_personLine 47 rfl) rfl rfl ?_
      obtain ⟨f40, k⟩ := k
      refine Ev.getR (ci := 5) (k := 3) (am_dt kX5_personLine 48 rfl) (by decide) (by decide) rfl wd_100 f39.1 f40 ?_
      refine Ev.iload 0 (am_dt kX5_personLine 49 rfl) rfl ?_
      refine Ev.iload_n 4 (am_dt kX5_personLine 50 rfl) rfl rfl ?_
      refine Ev.iload_n 3 (am_dt kX5_personLine 51 rfl) rfl rfl ?_
      refine Ev.iload_n 2 (am_dt kX5_personLine 52 rfl) rfl rfl ?_
      refine Ev.iload 1 (am_dt kX5_personLine 53 rfl) rfl ?_
      obtain ⟨f41, k⟩ := k
      refine Ev.callV (ci := 6) (v := mX6_addPerson) (As := [.int v38, .int v13, .int v20, .int v27, .int v34]) (st := []) okX6_addPerson wd_152 wd_153 wd_154 (am_dt kX5_personLine 54 rfl) (by decide) rfl rfl (Nat.le_of_ble_eq_true rfl) (Nat.le_of_ble_eq_true rfl) f41.1 ?_
      refine EvM.mono k (fun r43 h42 k => ?_)
      obtain ⟨rfl, k⟩ := k
      show Ev w _ _ _ 106 _ [] _ _
      exact Ev.vret (am_dt kX5_personLine 55 rfl) rfl k
  · have k := k.2 c
    refine Ev.aload_n 0 (am_dt kX5_personLine 6 rfl) rfl rfl ?_
    refine Ev.iconst (v := 5) (am_dt kX5_personLine 7 rfl) (by decide) ?_
    refine Ev.callV (ci := 5) (v := mX5_wrong) (As := [.int 5]) (st := []) okX5_wrong wd_113 wd_114 wd_115 (am_dt kX5_personLine 8 rfl) (by decide) rfl rfl (Nat.le_of_ble_eq_true rfl) (Nat.le_of_ble_eq_true rfl) f1.1 ?_
    refine EvM.mono k (fun r45 h44 k => ?_)
    obtain ⟨rfl, k⟩ := k
    show Ev w _ _ _ 20 _ [] _ _
    exact Ev.vret (am_dt kX5_personLine 9 rfl) rfl k
set_option maxRecDepth 20000 in
set_option maxHeartbeats 2000000 in
theorem bX5_name_0 {w : am_W} {d : Nat} {h : am_H} {Q : Option Value → am_H → Prop} {a0 : Nat}  (k : (am_L 5 a0 h) ∧ (EvM w mX5_kind d [.ref a0] h (fun r3 h2 => ∃ v4 : Int32, r3 = some (.int v4) ∧ ((v4 = 3 → ((am_L 5 a0 h2) ∧ ((hR h2 a0 0 ≠ 0) ∧ ((am_L 8 (hR h2 a0 0) h2) ∧ (EvM w mX8_nameKey d [.ref (hR h2 a0 0), .int (hI h2 a0 5)] h2 (fun r9 h8 => ∃ v10 : Int64, r9 = some (.long v10) ∧ ((am_L 5 a0 h8) ∧ ((hR h8 a0 3 ≠ 0) ∧ ((am_L 6 (hR h8 a0 3) h8) ∧ ((am_L 2 ((hR h8 a0 3) + 1) h8) ∧ (Ev w (am_Z w) mX5_name (d + 1) 40 [(0, .ref a0), (1, .long v10), (3, .int (hI h8 ((hR h8 a0 3) + 1) 5)), (4, .int 0)] [] h8 Q))))))))))) ∧ (¬ v4 = 3 → ((am_L 5 a0 h2) ∧ (EvM w mX5_wrong d [.ref a0, .int 1] h2 (fun r17 h16 => r17 = none ∧ (Q none h16))))))))) : EvM w mX5_name (d + 1) [.ref a0] h Q := by
  show Ev w (am_Z w) mX5_name (d + 1) 0 [(0, .ref a0)] [] h Q
  refine Ev.aload_n 0 (am_dt kX5_name 0 rfl) rfl rfl ?_
  obtain ⟨f1, k⟩ := k
  refine Ev.callV (ci := 5) (v := mX5_kind) (As := []) (st := []) okX5_kind wd_107 wd_108 wd_109 (am_dt kX5_name 1 rfl) (by decide) rfl rfl (Nat.le_of_ble_eq_true rfl) (Nat.le_of_ble_eq_true rfl) f1.1 ?_
  refine EvM.mono k (fun r3 h2 k => ?_)
  obtain ⟨v4, rfl, k⟩ := k
  show Ev w _ _ _ 4 _ [.int v4] _ _
  refine Ev.iconst (v := 3) (am_dt kX5_name 2 rfl) (by decide) ?_
  refine Ev.icmp_eq (tgt := 14) (am_dt kX5_name 3 rfl) (by decide) (fun c => ?_) (fun c => ?_)
  · have k := k.1 c
    refine Ev.aload_n 0 (am_dt kX5_name 8 rfl) rfl rfl ?_
    obtain ⟨f5, k⟩ := k
    obtain ⟨f6, k⟩ := k
    refine Ev.getR (ci := 5) (k := 0) (am_dt kX5_name 9 rfl) (by decide) (by decide) rfl wd_99 f5.1 f6 ?_
    refine Ev.aload_n 0 (am_dt kX5_name 10 rfl) rfl rfl ?_
    refine Ev.getI (ci := 5) (k := 5) (am_dt kX5_name 11 rfl) (by decide) (by decide) rfl wd_102 f5.1 ?_
    obtain ⟨f7, k⟩ := k
    refine Ev.callV (ci := 8) (v := mX8_nameKey) (As := [.int (hI h2 a0 5)]) (st := []) okX8_nameKey wd_155 wd_156 wd_157 (am_dt kX5_name 12 rfl) (by decide) rfl rfl (Nat.le_of_ble_eq_true rfl) (Nat.le_of_ble_eq_true rfl) f7.1 ?_
    refine EvM.mono k (fun r9 h8 k => ?_)
    obtain ⟨v10, rfl, k⟩ := k
    show Ev w _ _ _ 25 _ [.long v10] _ _
    refine Ev.lstore_n (lv' := [(1, .long v10), (0, .ref a0)]) (am_dt kX5_name 13 rfl) rfl (by decide) rfl ?_
    refine Ev.aload_n 1 (am_dt kX5_name 14 rfl) rfl rfl ?_
    obtain ⟨f11, k⟩ := k
    obtain ⟨f12, k⟩ := k
    refine Ev.getR (ci := 5) (k := 3) (am_dt kX5_name 15 rfl) (by decide) (by decide) rfl wd_100 f11.1 f12 ?_
    obtain ⟨f13, k⟩ := k
    refine Ev.getRe (ci := 6) (k := 0) (r := (hR h8 a0 3) + 1) (am_dt kX5_name 16 rfl) (by decide) (by decide) rfl wd_141 f13.1 (am_L.r f13 0 rfl) (by omega) ?_
    obtain ⟨f14, k⟩ := k
    refine Ev.getI (ci := 2) (k := 5) (am_dt kX5_name 17 rfl) (by decide) (by decide) rfl wd_142 f14.1 ?_
    refine Ev.istore_n (lv' := [(3, .int (hI h8 ((hR h8 a0 3) + 1) 5)), (1, .long v10), (0, .ref a0)]) (am_dt kX5_name 18 rfl) rfl (by decide) rfl ?_
    refine Ev.iconst (v := 0) (am_dt kX5_name 19 rfl) (by decide) ?_
    refine Ev.istore (lv' := [(4, .int 0), (3, .int (hI h8 ((hR h8 a0 3) + 1) 5)), (1, .long v10), (0, .ref a0)]) (am_dt kX5_name 20 rfl) (by decide) rfl ?_
    exact Ev.sub [3, 2, 1, 0] rfl k
  · have k := k.2 c
    refine Ev.aload_n 0 (am_dt kX5_name 4 rfl) rfl rfl ?_
    refine Ev.iconst (v := 1) (am_dt kX5_name 5 rfl) (by decide) ?_
    obtain ⟨f15, k⟩ := k
    refine Ev.callV (ci := 5) (v := mX5_wrong) (As := [.int 1]) (st := []) okX5_wrong wd_113 wd_114 wd_115 (am_dt kX5_name 6 rfl) (by decide) rfl rfl (Nat.le_of_ble_eq_true rfl) (Nat.le_of_ble_eq_true rfl) f15.1 ?_
    refine EvM.mono k (fun r17 h16 k => ?_)
    obtain ⟨rfl, k⟩ := k
    show Ev w _ _ _ 13 _ [] _ _
    exact Ev.vret (am_dt kX5_name 7 rfl) rfl k
set_option maxRecDepth 20000 in
set_option maxHeartbeats 2000000 in
theorem bX5_name_40 {w : am_W} {d : Nat} {h : am_H} {Q : Option Value → am_H → Prop} {a0 : Nat} {y1 : Int64} {x3 : Int32} {x4 : Int32}  (k : (x3 ≤ x4 → (Ev w (am_Z w) mX5_name (d + 1) 80 [(0, .ref a0), (1, .long y1), (3, .int x3)] [] h Q)) ∧ (¬ x3 ≤ x4 → ((am_L 5 a0 h) ∧ (((nI (hN h (a0 + 1))) ≤ x4 → (Ev w (am_Z w) mX5_name (d + 1) 80 [(0, .ref a0), (1, .long y1), (3, .int x3)] [] h Q)) ∧ (¬ (nI (hN h (a0 + 1))) ≤ x4 → ((vp_in x4 (hN h (a0 + 1))) ∧ (((hJ h (a0 + 1) (Int32.toNatClampNeg x4)) = y1 → (EvM w mX5_wrong d [.ref a0, .int 3] h (fun r4 h3 => r4 = none ∧ (Q none h3)))) ∧ (¬ (hJ h (a0 + 1) (Int32.toNatClampNeg x4)) = y1 → (Ev w (am_Z w) mX5_name (d + 1) 40 [(0, .ref a0), (1, .long y1), (3, .int x3), (4, .int (x4 + 1))] [] h Q))))))))) : Ev w (am_Z w) mX5_name (d + 1) 40 [(0, .ref a0), (1, .long y1), (3, .int x3), (4, .int x4)] [] h Q := by
  refine Ev.iload 3 (am_dt kX5_name 21 rfl) rfl ?_
  refine Ev.iload_n 2 (am_dt kX5_name 22 rfl) rfl rfl ?_
  refine Ev.icmp_ge (tgt := 80) (am_dt kX5_name 23 rfl) (by decide) (fun c => ?_) (fun c => ?_)
  · have k := k.1 c
    exact Ev.sub [0, 1, 2] rfl k
  · have k := k.2 c
    refine Ev.iload 3 (am_dt kX5_name 24 rfl) rfl ?_
    refine Ev.aload_n 0 (am_dt kX5_name 25 rfl) rfl rfl ?_
    obtain ⟨f1, k⟩ := k
    refine Ev.getRe (ci := 5) (k := 1) (r := a0 + 1) (am_dt kX5_name 26 rfl) (by decide) (by decide) rfl wd_97 f1.1 (am_L.r f1 0 rfl) (by omega) ?_
    refine Ev.alen 13 (am_dt kX5_name 27 rfl) (by decide) (by decide) (am_L.s f1 0 rfl) ?_
    refine Ev.icmp_ge (tgt := 80) (am_dt kX5_name 28 rfl) (by decide) (fun c => ?_) (fun c => ?_)
    · have k := k.1 c
      exact Ev.sub [0, 1, 2] rfl k
    · have k := k.2 c
      refine Ev.aload_n 0 (am_dt kX5_name 29 rfl) rfl rfl ?_
      refine Ev.getRe (ci := 5) (k := 1) (r := a0 + 1) (am_dt kX5_name 30 rfl) (by decide) (by decide) rfl wd_97 f1.1 (am_L.r f1 0 rfl) (by omega) ?_
      refine Ev.iload 3 (am_dt kX5_name 31 rfl) rfl ?_
      obtain ⟨f2, k⟩ := k
      refine Ev.lald (am_dt kX5_name 32 rfl) (am_L.s f1 0 rfl) f2 ?_
      refine Ev.lload_n 1 (am_dt kX5_name 33 rfl) rfl rfl ?_
      refine Ev.lcmp (am_dt kX5_name 34 rfl) ?_
      refine Ev.if_ne (tgt := 74) (am_dt kX5_name 35 rfl) (by decide) (fun c => ?_) (fun c => ?_)
      · have k := k.2 (mt am_lc.mpr c)
        refine Ev.iinc (v := x4 + 1) (lv' := [(4, .int (x4 + 1)), (0, .ref a0), (1, .long y1), (3, .int x3)]) 3 (am_dt kX5_name 40 rfl) rfl rfl (by decide) rfl ?_
        refine Ev.goto (tgt := 40) (am_dt kX5_name 41 rfl) (by decide) ?_
        exact Ev.sub [1, 2, 3, 0] rfl k
      · have k := k.1 (am_lc.mp c)
        refine Ev.aload_n 0 (am_dt kX5_name 36 rfl) rfl rfl ?_
        refine Ev.iconst (v := 3) (am_dt kX5_name 37 rfl) (by decide) ?_
        refine Ev.callV (ci := 5) (v := mX5_wrong) (As := [.int 3]) (st := []) okX5_wrong wd_113 wd_114 wd_115 (am_dt kX5_name 38 rfl) (by decide) rfl rfl (Nat.le_of_ble_eq_true rfl) (Nat.le_of_ble_eq_true rfl) f1.1 ?_
        refine EvM.mono k (fun r4 h3 k => ?_)
        obtain ⟨rfl, k⟩ := k
        show Ev w _ _ _ 73 _ [] _ _
        exact Ev.vret (am_dt kX5_name 39 rfl) rfl k
set_option maxRecDepth 20000 in
set_option maxHeartbeats 2000000 in
theorem bX5_name_80 {w : am_W} {d : Nat} {h : am_H} {Q : Option Value → am_H → Prop} {a0 : Nat} {y1 : Int64} {x3 : Int32}  (k : (x3 < 0 → ((am_L 5 a0 h) ∧ (EvM w mX5_step d [.ref a0] h (fun r3 h2 => r3 = none ∧ (Q none h2))))) ∧ (¬ x3 < 0 → ((am_L 5 a0 h) ∧ (((nI (hN h (a0 + 1))) ≤ x3 → (EvM w mX5_step d [.ref a0] h (fun r6 h5 => r6 = none ∧ (Q none h5)))) ∧ (¬ (nI (hN h (a0 + 1))) ≤ x3 → ((vp_in x3 (hN h (a0 + 1))) ∧ (∀ h8 : am_H, h8 = sJ h (a0 + 1) (Int32.toNatClampNeg x3) y1 → (EvM w mX5_step d [.ref a0] h8 (fun r10 h9 => r10 = none ∧ (Q none h9)))))))))) : Ev w (am_Z w) mX5_name (d + 1) 80 [(0, .ref a0), (1, .long y1), (3, .int x3)] [] h Q := by
  refine Ev.iload_n 2 (am_dt kX5_name 42 rfl) rfl rfl ?_
  refine Ev.if_lt (tgt := 100) (am_dt kX5_name 43 rfl) (by decide) (fun c => ?_) (fun c => ?_)
  · have k := k.1 c
    refine Ev.aload_n 0 (am_dt kX5_name 54 rfl) rfl rfl ?_
    obtain ⟨f1, k⟩ := k
    refine Ev.callV (ci := 5) (v := mX5_step) (As := []) (st := []) okX5_step wd_110 wd_111 wd_112 (am_dt kX5_name 55 rfl) (by decide) rfl rfl (Nat.le_of_ble_eq_true rfl) (Nat.le_of_ble_eq_true rfl) f1.1 ?_
    refine EvM.mono k (fun r3 h2 k => ?_)
    obtain ⟨rfl, k⟩ := k
    show Ev w _ _ _ 104 _ [] _ _
    exact Ev.vret (am_dt kX5_name 56 rfl) rfl k
  · have k := k.2 c
    refine Ev.iload_n 2 (am_dt kX5_name 44 rfl) rfl rfl ?_
    refine Ev.aload_n 0 (am_dt kX5_name 45 rfl) rfl rfl ?_
    obtain ⟨f4, k⟩ := k
    refine Ev.getRe (ci := 5) (k := 1) (r := a0 + 1) (am_dt kX5_name 46 rfl) (by decide) (by decide) rfl wd_97 f4.1 (am_L.r f4 0 rfl) (by omega) ?_
    refine Ev.alen 13 (am_dt kX5_name 47 rfl) (by decide) (by decide) (am_L.s f4 0 rfl) ?_
    refine Ev.icmp_ge (tgt := 100) (am_dt kX5_name 48 rfl) (by decide) (fun c => ?_) (fun c => ?_)
    · have k := k.1 c
      refine Ev.aload_n 0 (am_dt kX5_name 54 rfl) rfl rfl ?_
      refine Ev.callV (ci := 5) (v := mX5_step) (As := []) (st := []) okX5_step wd_110 wd_111 wd_112 (am_dt kX5_name 55 rfl) (by decide) rfl rfl (Nat.le_of_ble_eq_true rfl) (Nat.le_of_ble_eq_true rfl) f4.1 ?_
      refine EvM.mono k (fun r6 h5 k => ?_)
      obtain ⟨rfl, k⟩ := k
      show Ev w _ _ _ 104 _ [] _ _
      exact Ev.vret (am_dt kX5_name 56 rfl) rfl k
    · have k := k.2 c
      refine Ev.aload_n 0 (am_dt kX5_name 49 rfl) rfl rfl ?_
      refine Ev.getRe (ci := 5) (k := 1) (r := a0 + 1) (am_dt kX5_name 50 rfl) (by decide) (by decide) rfl wd_97 f4.1 (am_L.r f4 0 rfl) (by omega) ?_
      refine Ev.iload_n 2 (am_dt kX5_name 51 rfl) rfl rfl ?_
      refine Ev.lload_n 1 (am_dt kX5_name 52 rfl) rfl rfl ?_
      obtain ⟨f7, k⟩ := k
      refine Ev.last' (am_dt kX5_name 53 rfl) (am_L.s f4 0 rfl) f7 (fun h8 eh8 => ?_)
      have k := k h8 eh8
      have f4 := am_LsJ eh8 f4
      refine Ev.aload_n 0 (am_dt kX5_name 54 rfl) rfl rfl ?_
      refine Ev.callV (ci := 5) (v := mX5_step) (As := []) (st := []) okX5_step wd_110 wd_111 wd_112 (am_dt kX5_name 55 rfl) (by decide) rfl rfl (Nat.le_of_ble_eq_true rfl) (Nat.le_of_ble_eq_true rfl) f4.1 ?_
      refine EvM.mono k (fun r10 h9 k => ?_)
      obtain ⟨rfl, k⟩ := k
      show Ev w _ _ _ 104 _ [] _ _
      exact Ev.vret (am_dt kX5_name 56 rfl) rfl k
set_option maxRecDepth 20000 in
set_option maxHeartbeats 2000000 in
theorem bX5_sideWord_0 {w : am_W} {d : Nat} {h : am_H} {Q : Option Value → am_H → Prop} {a0 : Nat}  (k : (am_L 5 a0 h) ∧ (EvM w mX5_kind d [.ref a0] h (fun r3 h2 => ∃ v4 : Int32, r3 = some (.int v4) ∧ ((v4 = 75 → ((am_L 5 a0 h2) ∧ (EvM w mX5_step d [.ref a0] h2 (fun r7 h6 => r7 = none ∧ (Q (some (.int (v4 - 75))) h6))))) ∧ (¬ v4 = 75 → ((v4 = 76 → ((am_L 5 a0 h2) ∧ (EvM w mX5_step d [.ref a0] h2 (fun r10 h9 => r10 = none ∧ (Q (some (.int (v4 - 75))) h9))))) ∧ (¬ v4 = 76 → ((am_L 5 a0 h2) ∧ (EvM w mX5_wrong d [.ref a0, .int 1] h2 (fun r13 h12 => r13 = none ∧ (Q (some (.int 0)) h12))))))))))) : EvM w mX5_sideWord (d + 1) [.ref a0] h Q := by
  show Ev w (am_Z w) mX5_sideWord (d + 1) 0 [(0, .ref a0)] [] h Q
  refine Ev.aload_n 0 (am_dt kX5_sideWord 0 rfl) rfl rfl ?_
  obtain ⟨f1, k⟩ := k
  refine Ev.callV (ci := 5) (v := mX5_kind) (As := []) (st := []) okX5_kind wd_107 wd_108 wd_109 (am_dt kX5_sideWord 1 rfl) (by decide) rfl rfl (Nat.le_of_ble_eq_true rfl) (Nat.le_of_ble_eq_true rfl) f1.1 ?_
  refine EvM.mono k (fun r3 h2 k => ?_)
  obtain ⟨v4, rfl, k⟩ := k
  show Ev w _ _ _ 4 _ [.int v4] _ _
  refine Ev.istore_n (lv' := [(1, .int v4), (0, .ref a0)]) (am_dt kX5_sideWord 2 rfl) rfl (by decide) rfl ?_
  refine Ev.iload_n 0 (am_dt kX5_sideWord 3 rfl) rfl rfl ?_
  refine Ev.bipush (v := 75) (am_dt kX5_sideWord 4 rfl) (by decide) ?_
  refine Ev.icmp_eq (tgt := 17) (am_dt kX5_sideWord 5 rfl) (by decide) (fun c => ?_) (fun c => ?_)
  · have k := k.1 c
    refine Ev.aload_n 1 (am_dt kX5_sideWord 9 rfl) rfl rfl ?_
    obtain ⟨f5, k⟩ := k
    refine Ev.callV (ci := 5) (v := mX5_step) (As := []) (st := []) okX5_step wd_110 wd_111 wd_112 (am_dt kX5_sideWord 10 rfl) (by decide) rfl rfl (Nat.le_of_ble_eq_true rfl) (Nat.le_of_ble_eq_true rfl) f5.1 ?_
    refine EvM.mono k (fun r7 h6 k => ?_)
    obtain ⟨rfl, k⟩ := k
    show Ev w _ _ _ 21 _ [] _ _
    refine Ev.iload_n 0 (am_dt kX5_sideWord 11 rfl) rfl rfl ?_
    refine Ev.bipush (v := 75) (am_dt kX5_sideWord 12 rfl) (by decide) ?_
    refine Ev.isub (am_dt kX5_sideWord 13 rfl) ?_
    exact Ev.iret .int (am_dt kX5_sideWord 14 rfl) rfl rfl k
  · have k := k.2 c
    refine Ev.iload_n 0 (am_dt kX5_sideWord 6 rfl) rfl rfl ?_
    refine Ev.bipush (v := 76) (am_dt kX5_sideWord 7 rfl) (by decide) ?_
    refine Ev.icmp_ne (tgt := 26) (am_dt kX5_sideWord 8 rfl) (by decide) (fun c => ?_) (fun c => ?_)
    · have k := k.2 c
      refine Ev.aload_n 1 (am_dt kX5_sideWord 15 rfl) rfl rfl ?_
      refine Ev.iconst (v := 1) (am_dt kX5_sideWord 16 rfl) (by decide) ?_
      obtain ⟨f11, k⟩ := k
      refine Ev.callV (ci := 5) (v := mX5_wrong) (As := [.int 1]) (st := []) okX5_wrong wd_113 wd_114 wd_115 (am_dt kX5_sideWord 17 rfl) (by decide) rfl rfl (Nat.le_of_ble_eq_true rfl) (Nat.le_of_ble_eq_true rfl) f11.1 ?_
      refine EvM.mono k (fun r13 h12 k => ?_)
      obtain ⟨rfl, k⟩ := k
      show Ev w _ _ _ 31 _ [] _ _
      refine Ev.iconst (v := 0) (am_dt kX5_sideWord 18 rfl) (by decide) ?_
      exact Ev.iret .int (am_dt kX5_sideWord 19 rfl) rfl rfl k
    · have k := k.1 c
      refine Ev.aload_n 1 (am_dt kX5_sideWord 9 rfl) rfl rfl ?_
      obtain ⟨f8, k⟩ := k
      refine Ev.callV (ci := 5) (v := mX5_step) (As := []) (st := []) okX5_step wd_110 wd_111 wd_112 (am_dt kX5_sideWord 10 rfl) (by decide) rfl rfl (Nat.le_of_ble_eq_true rfl) (Nat.le_of_ble_eq_true rfl) f8.1 ?_
      refine EvM.mono k (fun r10 h9 k => ?_)
      obtain ⟨rfl, k⟩ := k
      show Ev w _ _ _ 21 _ [] _ _
      refine Ev.iload_n 0 (am_dt kX5_sideWord 11 rfl) rfl rfl ?_
      refine Ev.bipush (v := 75) (am_dt kX5_sideWord 12 rfl) (by decide) ?_
      refine Ev.isub (am_dt kX5_sideWord 13 rfl) ?_
      exact Ev.iret .int (am_dt kX5_sideWord 14 rfl) rfl rfl k
set_option maxRecDepth 20000 in
set_option maxHeartbeats 2000000 in
theorem bX5_kindWord_0 {w : am_W} {d : Nat} {h : am_H} {Q : Option Value → am_H → Prop} {a0 : Nat}  (k : (am_L 5 a0 h) ∧ (EvM w mX5_kind d [.ref a0] h (fun r3 h2 => ∃ v4 : Int32, r3 = some (.int v4) ∧ ((v4 < 81 → ((am_L 5 a0 h2) ∧ (EvM w mX5_wrong d [.ref a0, .int 1] h2 (fun r7 h6 => r7 = none ∧ (Q (some (.int v4)) h6))))) ∧ (¬ v4 < 81 → ((v4 ≤ 86 → ((v4 = 86 → ((am_L 5 a0 h2) ∧ ((hR h2 a0 3 ≠ 0) ∧ ((am_L 6 (hR h2 a0 3) h2) ∧ (((hI h2 (hR h2 a0 3) 12) < 8 → (EvM w mX5_step d [.ref a0] h2 (fun r12 h11 => r12 = none ∧ (Q (some (.int v4)) h11)))) ∧ (¬ (hI h2 (hR h2 a0 3) 12) < 8 → (EvM w mX5_wrong d [.ref a0, .int 5] h2 (fun r14 h13 => r14 = none ∧ (Q (some (.int v4)) h13))))))))) ∧ (¬ v4 = 86 → ((am_L 5 a0 h2) ∧ (EvM w mX5_step d [.ref a0] h2 (fun r17 h16 => r17 = none ∧ (Q (some (.int v4)) h16))))))) ∧ (¬ v4 ≤ 86 → ((am_L 5 a0 h2) ∧ (EvM w mX5_wrong d [.ref a0, .int 1] h2 (fun r20 h19 => r20 = none ∧ (Q (some (.int v4)) h19))))))))))) : EvM w mX5_kindWord (d + 1) [.ref a0] h Q := by
  show Ev w (am_Z w) mX5_kindWord (d + 1) 0 [(0, .ref a0)] [] h Q
  refine Ev.aload_n 0 (am_dt kX5_kindWord 0 rfl) rfl rfl ?_
  obtain ⟨f1, k⟩ := k
  refine Ev.callV (ci := 5) (v := mX5_kind) (As := []) (st := []) okX5_kind wd_107 wd_108 wd_109 (am_dt kX5_kindWord 1 rfl) (by decide) rfl rfl (Nat.le_of_ble_eq_true rfl) (Nat.le_of_ble_eq_true rfl) f1.1 ?_
  refine EvM.mono k (fun r3 h2 k => ?_)
  obtain ⟨v4, rfl, k⟩ := k
  show Ev w _ _ _ 4 _ [.int v4] _ _
  refine Ev.istore_n (lv' := [(1, .int v4), (0, .ref a0)]) (am_dt kX5_kindWord 2 rfl) rfl (by decide) rfl ?_
  refine Ev.iload_n 0 (am_dt kX5_kindWord 3 rfl) rfl rfl ?_
  refine Ev.bipush (v := 81) (am_dt kX5_kindWord 4 rfl) (by decide) ?_
  refine Ev.icmp_lt (tgt := 17) (am_dt kX5_kindWord 5 rfl) (by decide) (fun c => ?_) (fun c => ?_)
  · have k := k.1 c
    refine Ev.aload_n 1 (am_dt kX5_kindWord 9 rfl) rfl rfl ?_
    refine Ev.iconst (v := 1) (am_dt kX5_kindWord 10 rfl) (by decide) ?_
    obtain ⟨f5, k⟩ := k
    refine Ev.callV (ci := 5) (v := mX5_wrong) (As := [.int 1]) (st := []) okX5_wrong wd_113 wd_114 wd_115 (am_dt kX5_kindWord 11 rfl) (by decide) rfl rfl (Nat.le_of_ble_eq_true rfl) (Nat.le_of_ble_eq_true rfl) f5.1 ?_
    refine EvM.mono k (fun r7 h6 k => ?_)
    obtain ⟨rfl, k⟩ := k
    show Ev w _ _ _ 22 _ [] _ _
    refine Ev.goto (tgt := 55) (am_dt kX5_kindWord 12 rfl) (by decide) ?_
    refine Ev.iload_n 0 (am_dt kX5_kindWord 27 rfl) rfl rfl ?_
    exact Ev.iret .int (am_dt kX5_kindWord 28 rfl) rfl rfl k
  · have k := k.2 c
    refine Ev.iload_n 0 (am_dt kX5_kindWord 6 rfl) rfl rfl ?_
    refine Ev.bipush (v := 86) (am_dt kX5_kindWord 7 rfl) (by decide) ?_
    refine Ev.icmp_le (tgt := 25) (am_dt kX5_kindWord 8 rfl) (by decide) (fun c => ?_) (fun c => ?_)
    · have k := k.1 c
      refine Ev.iload_n 0 (am_dt kX5_kindWord 13 rfl) rfl rfl ?_
      refine Ev.bipush (v := 86) (am_dt kX5_kindWord 14 rfl) (by decide) ?_
      refine Ev.icmp_ne (tgt := 51) (am_dt kX5_kindWord 15 rfl) (by decide) (fun c => ?_) (fun c => ?_)
      · have k := k.2 c
        refine Ev.aload_n 1 (am_dt kX5_kindWord 25 rfl) rfl rfl ?_
        obtain ⟨f15, k⟩ := k
        refine Ev.callV (ci := 5) (v := mX5_step) (As := []) (st := []) okX5_step wd_110 wd_111 wd_112 (am_dt kX5_kindWord 26 rfl) (by decide) rfl rfl (Nat.le_of_ble_eq_true rfl) (Nat.le_of_ble_eq_true rfl) f15.1 ?_
        refine EvM.mono k (fun r17 h16 k => ?_)
        obtain ⟨rfl, k⟩ := k
        show Ev w _ _ _ 55 _ [] _ _
        refine Ev.iload_n 0 (am_dt kX5_kindWord 27 rfl) rfl rfl ?_
        exact Ev.iret .int (am_dt kX5_kindWord 28 rfl) rfl rfl k
      · have k := k.1 c
        refine Ev.aload_n 1 (am_dt kX5_kindWord 16 rfl) rfl rfl ?_
        obtain ⟨f8, k⟩ := k
        obtain ⟨f9, k⟩ := k
        refine Ev.getR (ci := 5) (k := 3) (am_dt kX5_kindWord 17 rfl) (by decide) (by decide) rfl wd_100 f8.1 f9 ?_
        obtain ⟨f10, k⟩ := k
        refine Ev.getI (ci := 6) (k := 12) (am_dt kX5_kindWord 18 rfl) (by decide) (by decide) rfl wd_158 f10.1 ?_
        refine Ev.bipush (v := 8) (am_dt kX5_kindWord 19 rfl) (by decide) ?_
        refine Ev.icmp_lt (tgt := 51) (am_dt kX5_kindWord 20 rfl) (by decide) (fun c => ?_) (fun c => ?_)
        · have k := k.1 c
          refine Ev.aload_n 1 (am_dt kX5_kindWord 25 rfl) rfl rfl ?_
          refine Ev.callV (ci := 5) (v := mX5_step) (As := []) (st := []) okX5_step wd_110 wd_111 wd_112 (am_dt kX5_kindWord 26 rfl) (by decide) rfl rfl (Nat.le_of_ble_eq_true rfl) (Nat.le_of_ble_eq_true rfl) f8.1 ?_
          refine EvM.mono k (fun r12 h11 k => ?_)
          obtain ⟨rfl, k⟩ := k
          show Ev w _ _ _ 55 _ [] _ _
          refine Ev.iload_n 0 (am_dt kX5_kindWord 27 rfl) rfl rfl ?_
          exact Ev.iret .int (am_dt kX5_kindWord 28 rfl) rfl rfl k
        · have k := k.2 c
          refine Ev.aload_n 1 (am_dt kX5_kindWord 21 rfl) rfl rfl ?_
          refine Ev.iconst (v := 5) (am_dt kX5_kindWord 22 rfl) (by decide) ?_
          refine Ev.callV (ci := 5) (v := mX5_wrong) (As := [.int 5]) (st := []) okX5_wrong wd_113 wd_114 wd_115 (am_dt kX5_kindWord 23 rfl) (by decide) rfl rfl (Nat.le_of_ble_eq_true rfl) (Nat.le_of_ble_eq_true rfl) f8.1 ?_
          refine EvM.mono k (fun r14 h13 k => ?_)
          obtain ⟨rfl, k⟩ := k
          show Ev w _ _ _ 48 _ [] _ _
          refine Ev.goto (tgt := 55) (am_dt kX5_kindWord 24 rfl) (by decide) ?_
          refine Ev.iload_n 0 (am_dt kX5_kindWord 27 rfl) rfl rfl ?_
          exact Ev.iret .int (am_dt kX5_kindWord 28 rfl) rfl rfl k
    · have k := k.2 c
      refine Ev.aload_n 1 (am_dt kX5_kindWord 9 rfl) rfl rfl ?_
      refine Ev.iconst (v := 1) (am_dt kX5_kindWord 10 rfl) (by decide) ?_
      obtain ⟨f18, k⟩ := k
      refine Ev.callV (ci := 5) (v := mX5_wrong) (As := [.int 1]) (st := []) okX5_wrong wd_113 wd_114 wd_115 (am_dt kX5_kindWord 11 rfl) (by decide) rfl rfl (Nat.le_of_ble_eq_true rfl) (Nat.le_of_ble_eq_true rfl) f18.1 ?_
      refine EvM.mono k (fun r20 h19 k => ?_)
      obtain ⟨rfl, k⟩ := k
      show Ev w _ _ _ 22 _ [] _ _
      refine Ev.goto (tgt := 55) (am_dt kX5_kindWord 12 rfl) (by decide) ?_
      refine Ev.iload_n 0 (am_dt kX5_kindWord 27 rfl) rfl rfl ?_
      exact Ev.iret .int (am_dt kX5_kindWord 28 rfl) rfl rfl k
set_option maxRecDepth 20000 in
set_option maxHeartbeats 2000000 in
theorem bX5_lawLine_0 {w : am_W} {d : Nat} {h : am_H} {Q : Option Value → am_H → Prop} {a0 : Nat}  (k : (am_L 5 a0 h) ∧ ((hR h a0 3 ≠ 0) ∧ ((am_L 6 (hR h a0 3) h) ∧ (((hI h (hR h a0 3) 13) < 4 → (EvM w mX5_step d [.ref a0] h (fun r5 h4 => r5 = none ∧ ((am_L 5 a0 h4) ∧ (EvM w mX5_chain d [.ref a0, .int 0, .int 0] h4 (fun r8 h7 => r8 = none ∧ ((am_L 5 a0 h7) ∧ ((hR h7 a0 3 ≠ 0) ∧ ((am_L 6 (hR h7 a0 3) h7) ∧ (EvM w mX6_endLaw d [.ref (hR h7 a0 3), .int (hI h7 a0 4)] h7 (fun r13 h12 => r13 = none ∧ (Q none h12)))))))))))) ∧ (¬ (hI h (hR h a0 3) 13) < 4 → (EvM w mX5_wrong d [.ref a0, .int 5] h (fun r15 h14 => r15 = none ∧ (Q none h14)))))))) : EvM w mX5_lawLine (d + 1) [.ref a0] h Q := by
  show Ev w (am_Z w) mX5_lawLine (d + 1) 0 [(0, .ref a0)] [] h Q
  refine Ev.aload_n 0 (am_dt kX5_lawLine 0 rfl) rfl rfl ?_
  obtain ⟨f1, k⟩ := k
  obtain ⟨f2, k⟩ := k
  refine Ev.getR (ci := 5) (k := 3) (am_dt kX5_lawLine 1 rfl) (by decide) (by decide) rfl wd_100 f1.1 f2 ?_
  obtain ⟨f3, k⟩ := k
  refine Ev.getI (ci := 6) (k := 13) (am_dt kX5_lawLine 2 rfl) (by decide) (by decide) rfl wd_159 f3.1 ?_
  refine Ev.iconst (v := 4) (am_dt kX5_lawLine 3 rfl) (by decide) ?_
  refine Ev.icmp_lt (tgt := 17) (am_dt kX5_lawLine 4 rfl) (by decide) (fun c => ?_) (fun c => ?_)
  · have k := k.1 c
    refine Ev.aload_n 0 (am_dt kX5_lawLine 9 rfl) rfl rfl ?_
    refine Ev.callV (ci := 5) (v := mX5_step) (As := []) (st := []) okX5_step wd_110 wd_111 wd_112 (am_dt kX5_lawLine 10 rfl) (by decide) rfl rfl (Nat.le_of_ble_eq_true rfl) (Nat.le_of_ble_eq_true rfl) f1.1 ?_
    refine EvM.mono k (fun r5 h4 k => ?_)
    obtain ⟨rfl, k⟩ := k
    show Ev w _ _ _ 21 _ [] _ _
    refine Ev.aload_n 0 (am_dt kX5_lawLine 11 rfl) rfl rfl ?_
    refine Ev.iconst (v := 0) (am_dt kX5_lawLine 12 rfl) (by decide) ?_
    refine Ev.iconst (v := 0) (am_dt kX5_lawLine 13 rfl) (by decide) ?_
    obtain ⟨f6, k⟩ := k
    refine Ev.callV (ci := 5) (v := mX5_chain) (As := [.int 0, .int 0]) (st := []) okX5_chain wd_160 wd_161 wd_162 (am_dt kX5_lawLine 14 rfl) (by decide) rfl rfl (Nat.le_of_ble_eq_true rfl) (Nat.le_of_ble_eq_true rfl) f6.1 ?_
    refine EvM.mono k (fun r8 h7 k => ?_)
    obtain ⟨rfl, k⟩ := k
    show Ev w _ _ _ 27 _ [] _ _
    refine Ev.aload_n 0 (am_dt kX5_lawLine 15 rfl) rfl rfl ?_
    obtain ⟨f9, k⟩ := k
    obtain ⟨f10, k⟩ := k
    refine Ev.getR (ci := 5) (k := 3) (am_dt kX5_lawLine 16 rfl) (by decide) (by decide) rfl wd_100 f9.1 f10 ?_
    refine Ev.aload_n 0 (am_dt kX5_lawLine 17 rfl) rfl rfl ?_
    refine Ev.getI (ci := 5) (k := 4) (am_dt kX5_lawLine 18 rfl) (by decide) (by decide) rfl wd_163 f9.1 ?_
    obtain ⟨f11, k⟩ := k
    refine Ev.callV (ci := 6) (v := mX6_endLaw) (As := [.int (hI h7 a0 4)]) (st := []) okX6_endLaw wd_164 wd_165 wd_166 (am_dt kX5_lawLine 19 rfl) (by decide) rfl rfl (Nat.le_of_ble_eq_true rfl) (Nat.le_of_ble_eq_true rfl) f11.1 ?_
    refine EvM.mono k (fun r13 h12 k => ?_)
    obtain ⟨rfl, k⟩ := k
    show Ev w _ _ _ 38 _ [] _ _
    exact Ev.vret (am_dt kX5_lawLine 20 rfl) rfl k
  · have k := k.2 c
    refine Ev.aload_n 0 (am_dt kX5_lawLine 5 rfl) rfl rfl ?_
    refine Ev.iconst (v := 5) (am_dt kX5_lawLine 6 rfl) (by decide) ?_
    refine Ev.callV (ci := 5) (v := mX5_wrong) (As := [.int 5]) (st := []) okX5_wrong wd_113 wd_114 wd_115 (am_dt kX5_lawLine 7 rfl) (by decide) rfl rfl (Nat.le_of_ble_eq_true rfl) (Nat.le_of_ble_eq_true rfl) f1.1 ?_
    refine EvM.mono k (fun r15 h14 k => ?_)
    obtain ⟨rfl, k⟩ := k
    show Ev w _ _ _ 16 _ [] _ _
    exact Ev.vret (am_dt kX5_lawLine 8 rfl) rfl k
set_option maxRecDepth 20000 in
set_option maxHeartbeats 2000000 in
theorem bX5_write_0 {w : am_W} {d : Nat} {h : am_H} {Q : Option Value → am_H → Prop} {a0 : Nat} {x1 : Int32}  (k : (am_L 5 a0 h) ∧ (EvM w mX9_set d [.ref (a0 + 2), .int (hI h a0 4), .int x1] h (fun r3 h2 => r3 = none ∧ ((am_L 5 a0 h2) ∧ (∀ h5 : am_H, h5 = sI h2 a0 4 ((hI h2 a0 4) + 1) → (Q none h5)))))) : EvM w mX5_write (d + 1) [.ref a0, .int x1] h Q := by
  show Ev w (am_Z w) mX5_write (d + 1) 0 [(0, .ref a0), (1, .int x1)] [] h Q
  refine Ev.aload_n 0 (am_dt kX5_write 0 rfl) rfl rfl ?_
  obtain ⟨f1, k⟩ := k
  refine Ev.getRe (ci := 5) (k := 2) (r := a0 + 2) (am_dt kX5_write 1 rfl) (by decide) (by decide) rfl wd_98 f1.1 (am_L.r f1 1 rfl) (by omega) ?_
  refine Ev.aload_n 0 (am_dt kX5_write 2 rfl) rfl rfl ?_
  refine Ev.getI (ci := 5) (k := 4) (am_dt kX5_write 3 rfl) (by decide) (by decide) rfl wd_163 f1.1 ?_
  refine Ev.iload_n 1 (am_dt kX5_write 4 rfl) rfl rfl ?_
  refine Ev.callSN (v := mX9_set) (As := [.ref (a0 + 2), .int (hI h a0 4), .int x1]) (st := []) okX9_set wd_16 wd_167 (am_dt kX5_write 5 rfl) rfl rfl (Nat.le_of_ble_eq_true rfl) (Nat.le_of_ble_eq_true rfl) ?_
  refine EvM.mono k (fun r3 h2 k => ?_)
  obtain ⟨rfl, k⟩ := k
  show Ev w _ _ _ 12 _ [] _ _
  refine Ev.aload_n 0 (am_dt kX5_write 6 rfl) rfl rfl ?_
  refine Ev.dup (am_dt kX5_write 7 rfl) rfl ?_
  obtain ⟨f4, k⟩ := k
  refine Ev.getI (ci := 5) (k := 4) (am_dt kX5_write 8 rfl) (by decide) (by decide) rfl wd_163 f4.1 ?_
  refine Ev.iconst (v := 1) (am_dt kX5_write 9 rfl) (by decide) ?_
  refine Ev.iadd (am_dt kX5_write 10 rfl) ?_
  refine Ev.putI' (ci := 5) (k := 4) (am_dt kX5_write 11 rfl) (by decide) (by decide) wd_163 rfl rfl rfl rfl f4.1 (fun h5 eh5 => ?_)
  have k := k h5 eh5
  have f4 := am_LsI eh5 f4
  exact Ev.vret (am_dt kX5_write 12 rfl) rfl k
set_option maxRecDepth 20000 in
set_option maxHeartbeats 2000000 in
theorem bX5_chain_0 {w : am_W} {d : Nat} {h : am_H} {Q : Option Value → am_H → Prop} {a0 : Nat} {x1 : Int32} {x2 : Int32}  (k : (x1 < 4 → ((am_L 5 a0 h) ∧ (EvM w mX5_chain d [.ref a0, .int (x1 + 1), .int x2] h (fun r3 h2 => r3 = none ∧ ((x1 = 1 → (Ev w (am_Z w) mX5_chain (d + 1) 35 [(0, .ref a0), (1, .int x1), (2, .int x2), (3, .int 1), (4, .int 0)] [] h2 Q)) ∧ (¬ x1 = 1 → (Ev w (am_Z w) mX5_chain (d + 1) 35 [(0, .ref a0), (1, .int x1), (2, .int x2), (3, .int 1000), (4, .int 0)] [] h2 Q))))))) ∧ (¬ x1 < 4 → ((am_L 5 a0 h) ∧ (EvM w mX5_part d [.ref a0, .int x2] h (fun r6 h5 => r6 = none ∧ (Q none h5)))))) : EvM w mX5_chain (d + 1) [.ref a0, .int x1, .int x2] h Q := by
  show Ev w (am_Z w) mX5_chain (d + 1) 0 [(0, .ref a0), (1, .int x1), (2, .int x2)] [] h Q
  refine Ev.iload_n 1 (am_dt kX5_chain 0 rfl) rfl rfl ?_
  refine Ev.iconst (v := 4) (am_dt kX5_chain 1 rfl) (by decide) ?_
  refine Ev.icmp_lt (tgt := 11) (am_dt kX5_chain 2 rfl) (by decide) (fun c => ?_) (fun c => ?_)
  · have k := k.1 c
    refine Ev.aload_n 0 (am_dt kX5_chain 7 rfl) rfl rfl ?_
    refine Ev.iload_n 1 (am_dt kX5_chain 8 rfl) rfl rfl ?_
    refine Ev.iconst (v := 1) (am_dt kX5_chain 9 rfl) (by decide) ?_
    refine Ev.iadd (am_dt kX5_chain 10 rfl) ?_
    refine Ev.iload_n 2 (am_dt kX5_chain 11 rfl) rfl rfl ?_
    obtain ⟨f1, k⟩ := k
    refine Ev.callV (ci := 5) (v := mX5_chain) (As := [.int (x1 + 1), .int x2]) (st := []) okX5_chain wd_160 wd_161 wd_162 (am_dt kX5_chain 12 rfl) (by decide) rfl rfl (Nat.le_of_ble_eq_true rfl) (Nat.le_of_ble_eq_true rfl) f1.1 ?_
    refine EvM.mono k (fun r3 h2 k => ?_)
    obtain ⟨rfl, k⟩ := k
    show Ev w _ _ _ 19 _ [] _ _
    refine Ev.iload_n 1 (am_dt kX5_chain 13 rfl) rfl rfl ?_
    refine Ev.iconst (v := 1) (am_dt kX5_chain 14 rfl) (by decide) ?_
    refine Ev.icmp_ne (tgt := 28) (am_dt kX5_chain 15 rfl) (by decide) (fun c => ?_) (fun c => ?_)
    · have k := k.2 c
      refine Ev.sipush (v := 1000) (am_dt kX5_chain 18 rfl) (by decide) ?_
      refine Ev.istore_n (lv' := [(3, .int 1000), (0, .ref a0), (1, .int x1), (2, .int x2)]) (am_dt kX5_chain 19 rfl) rfl (by decide) rfl ?_
      refine Ev.iconst (v := 0) (am_dt kX5_chain 20 rfl) (by decide) ?_
      refine Ev.istore (lv' := [(4, .int 0), (3, .int 1000), (0, .ref a0), (1, .int x1), (2, .int x2)]) (am_dt kX5_chain 21 rfl) (by decide) rfl ?_
      exact Ev.sub [2, 3, 4, 1, 0] rfl k
    · have k := k.1 c
      refine Ev.iconst (v := 1) (am_dt kX5_chain 16 rfl) (by decide) ?_
      refine Ev.goto (tgt := 31) (am_dt kX5_chain 17 rfl) (by decide) ?_
      refine Ev.istore_n (lv' := [(3, .int 1), (0, .ref a0), (1, .int x1), (2, .int x2)]) (am_dt kX5_chain 19 rfl) rfl (by decide) rfl ?_
      refine Ev.iconst (v := 0) (am_dt kX5_chain 20 rfl) (by decide) ?_
      refine Ev.istore (lv' := [(4, .int 0), (3, .int 1), (0, .ref a0), (1, .int x1), (2, .int x2)]) (am_dt kX5_chain 21 rfl) (by decide) rfl ?_
      exact Ev.sub [2, 3, 4, 1, 0] rfl k
  · have k := k.2 c
    refine Ev.aload_n 0 (am_dt kX5_chain 3 rfl) rfl rfl ?_
    refine Ev.iload_n 2 (am_dt kX5_chain 4 rfl) rfl rfl ?_
    obtain ⟨f4, k⟩ := k
    refine Ev.callV (ci := 5) (v := mX5_part) (As := [.int x2]) (st := []) okX5_part wd_168 wd_169 wd_170 (am_dt kX5_chain 5 rfl) (by decide) rfl rfl (Nat.le_of_ble_eq_true rfl) (Nat.le_of_ble_eq_true rfl) f4.1 ?_
    refine EvM.mono k (fun r6 h5 k => ?_)
    obtain ⟨rfl, k⟩ := k
    show Ev w _ _ _ 10 _ [] _ _
    exact Ev.vret (am_dt kX5_chain 6 rfl) rfl k
set_option maxRecDepth 20000 in
set_option maxHeartbeats 2000000 in
theorem bX5_chain_35 {w : am_W} {d : Nat} {h : am_H} {Q : Option Value → am_H → Prop} {a0 : Nat} {x1 : Int32} {x2 : Int32} {x3 : Int32} {x4 : Int32}  (k : (x3 ≤ x4 → (Q none h)) ∧ (¬ x3 ≤ x4 → ((am_L 5 a0 h) ∧ (((hI h a0 6) = 0 → (EvM w mX5_kind d [.ref a0] h (fun r3 h2 => ∃ v4 : Int32, r3 = some (.int v4) ∧ (EvM w mX5_levelOf d [.int v4] h2 (fun r6 h5 => ∃ v7 : Int32, r6 = some (.int v7) ∧ ((v7 = x1 → ((am_L 5 a0 h5) ∧ (EvM w mX5_kind d [.ref a0] h5 (fun r10 h9 => ∃ v11 : Int32, r10 = some (.int v11) ∧ ((am_L 5 a0 h9) ∧ (EvM w mX5_step d [.ref a0] h9 (fun r14 h13 => r14 = none ∧ ((am_L 5 a0 h13) ∧ (EvM w mX5_chain d [.ref a0, .int (x1 + 1), .int x2] h13 (fun r17 h16 => r17 = none ∧ ((am_L 5 a0 h16) ∧ (EvM w mX5_write d [.ref a0, .int (-v11)] h16 (fun r20 h19 => r20 = none ∧ (Ev w (am_Z w) mX5_chain (d + 1) 35 [(0, .ref a0), (1, .int x1), (2, .int x2), (3, .int x3), (4, .int (x4 + 1))] [] h19 Q)))))))))))))) ∧ (¬ v7 = x1 → (Q none h5)))))))) ∧ (¬ (hI h a0 6) = 0 → (Q none h)))))) : Ev w (am_Z w) mX5_chain (d + 1) 35 [(0, .ref a0), (1, .int x1), (2, .int x2), (3, .int x3), (4, .int x4)] [] h Q := by
  refine Ev.iload 4 (am_dt kX5_chain 22 rfl) rfl ?_
  refine Ev.iload_n 3 (am_dt kX5_chain 23 rfl) rfl rfl ?_
  refine Ev.icmp_ge (tgt := 90) (am_dt kX5_chain 24 rfl) (by decide) (fun c => ?_) (fun c => ?_)
  · have k := k.1 c
    exact Ev.vret (am_dt kX5_chain 50 rfl) rfl k
  · have k := k.2 c
    refine Ev.aload_n 0 (am_dt kX5_chain 25 rfl) rfl rfl ?_
    obtain ⟨f1, k⟩ := k
    refine Ev.getI (ci := 5) (k := 6) (am_dt kX5_chain 26 rfl) (by decide) (by decide) rfl wd_105 f1.1 ?_
    refine Ev.if_ne (tgt := 90) (am_dt kX5_chain 27 rfl) (by decide) (fun c => ?_) (fun c => ?_)
    · have k := k.2 c
      exact Ev.vret (am_dt kX5_chain 50 rfl) rfl k
    · have k := k.1 c
      refine Ev.aload_n 0 (am_dt kX5_chain 28 rfl) rfl rfl ?_
      refine Ev.callV (ci := 5) (v := mX5_kind) (As := []) (st := []) okX5_kind wd_107 wd_108 wd_109 (am_dt kX5_chain 29 rfl) (by decide) rfl rfl (Nat.le_of_ble_eq_true rfl) (Nat.le_of_ble_eq_true rfl) f1.1 ?_
      refine EvM.mono k (fun r3 h2 k => ?_)
      obtain ⟨v4, rfl, k⟩ := k
      show Ev w _ _ _ 52 _ [.int v4] _ _
      refine Ev.callS (v := mX5_levelOf) (As := [.int v4]) (st := []) okX5_levelOf wd_172 wd_171 (am_dt kX5_chain 30 rfl) rfl rfl (Nat.le_of_ble_eq_true rfl) (Nat.le_of_ble_eq_true rfl) ?_
      refine EvM.mono k (fun r6 h5 k => ?_)
      obtain ⟨v7, rfl, k⟩ := k
      show Ev w _ _ _ 55 _ [.int v7] _ _
      refine Ev.iload_n 1 (am_dt kX5_chain 31 rfl) rfl rfl ?_
      refine Ev.icmp_ne (tgt := 90) (am_dt kX5_chain 32 rfl) (by decide) (fun c => ?_) (fun c => ?_)
      · have k := k.2 c
        exact Ev.vret (am_dt kX5_chain 50 rfl) rfl k
      · have k := k.1 c
        refine Ev.aload_n 0 (am_dt kX5_chain 33 rfl) rfl rfl ?_
        obtain ⟨f8, k⟩ := k
        refine Ev.callV (ci := 5) (v := mX5_kind) (As := []) (st := []) okX5_kind wd_107 wd_108 wd_109 (am_dt kX5_chain 34 rfl) (by decide) rfl rfl (Nat.le_of_ble_eq_true rfl) (Nat.le_of_ble_eq_true rfl) f8.1 ?_
        refine EvM.mono k (fun r10 h9 k => ?_)
        obtain ⟨v11, rfl, k⟩ := k
        show Ev w _ _ _ 63 _ [.int v11] _ _
        refine Ev.istore (lv' := [(5, .int v11), (0, .ref a0), (1, .int x1), (2, .int x2), (3, .int x3), (4, .int x4)]) (am_dt kX5_chain 35 rfl) (by decide) rfl ?_
        refine Ev.aload_n 1 (am_dt kX5_chain 36 rfl) rfl rfl ?_
        obtain ⟨f12, k⟩ := k
        refine Ev.callV (ci := 5) (v := mX5_step) (As := []) (st := []) okX5_step wd_110 wd_111 wd_112 (am_dt kX5_chain 37 rfl) (by decide) rfl rfl (Nat.le_of_ble_eq_true rfl) (Nat.le_of_ble_eq_true rfl) f12.1 ?_
        refine EvM.mono k (fun r14 h13 k => ?_)
        obtain ⟨rfl, k⟩ := k
        show Ev w _ _ _ 69 _ [] _ _
        refine Ev.aload_n 1 (am_dt kX5_chain 38 rfl) rfl rfl ?_
        refine Ev.iload_n 2 (am_dt kX5_chain 39 rfl) rfl rfl ?_
        refine Ev.iconst (v := 1) (am_dt kX5_chain 40 rfl) (by decide) ?_
        refine Ev.iadd (am_dt kX5_chain 41 rfl) ?_
        refine Ev.iload_n 3 (am_dt kX5_chain 42 rfl) rfl rfl ?_
        obtain ⟨f15, k⟩ := k
        refine Ev.callV (ci := 5) (v := mX5_chain) (As := [.int (x1 + 1), .int x2]) (st := []) okX5_chain wd_160 wd_161 wd_162 (am_dt kX5_chain 43 rfl) (by decide) rfl rfl (Nat.le_of_ble_eq_true rfl) (Nat.le_of_ble_eq_true rfl) f15.1 ?_
        refine EvM.mono k (fun r17 h16 k => ?_)
        obtain ⟨rfl, k⟩ := k
        show Ev w _ _ _ 77 _ [] _ _
        refine Ev.aload_n 1 (am_dt kX5_chain 44 rfl) rfl rfl ?_
        refine Ev.iload 0 (am_dt kX5_chain 45 rfl) rfl ?_
        refine Ev.ineg (am_dt kX5_chain 46 rfl) ?_
        obtain ⟨f18, k⟩ := k
        refine Ev.callV (ci := 5) (v := mX5_write) (As := [.int (-v11)]) (st := []) okX5_write wd_173 wd_174 wd_175 (am_dt kX5_chain 47 rfl) (by decide) rfl rfl (Nat.le_of_ble_eq_true rfl) (Nat.le_of_ble_eq_true rfl) f18.1 ?_
        refine EvM.mono k (fun r20 h19 k => ?_)
        obtain ⟨rfl, k⟩ := k
        show Ev w _ _ _ 84 _ [] _ _
        refine Ev.iinc (v := x4 + 1) (lv' := [(4, .int (x4 + 1)), (5, .int v11), (0, .ref a0), (1, .int x1), (2, .int x2), (3, .int x3)]) 5 (am_dt kX5_chain 48 rfl) rfl rfl (by decide) rfl ?_
        refine Ev.goto (tgt := 35) (am_dt kX5_chain 49 rfl) (by decide) ?_
        exact Ev.sub [2, 3, 4, 5, 0] rfl k
set_option maxRecDepth 20000 in
set_option maxHeartbeats 2000000 in
theorem bX5_levelOf_0 {w : am_W} {d : Nat} {h : am_H} {Q : Option Value → am_H → Prop} {x0 : Int32}  (k : (x0 = 42 → (Q (some (.int 3)) h)) ∧ (¬ x0 = 42 → ((x0 = 43 → (Q (some (.int 2)) h)) ∧ (¬ x0 = 43 → ((x0 = 45 → (Q (some (.int 2)) h)) ∧ (¬ x0 = 45 → ((x0 = 60 → (Q (some (.int 1)) h)) ∧ (¬ x0 = 60 → ((x0 = 61 → (Q (some (.int 1)) h)) ∧ (¬ x0 = 61 → ((x0 = 88 → (Q (some (.int 0)) h)) ∧ (¬ x0 = 88 → ((x0 = 89 → (Q (some (.int 0)) h)) ∧ (¬ x0 = 89 → (Q (some (.int ((-1)))) h))))))))))))))) : EvM w mX5_levelOf d [.int x0] h Q := by
  show Ev w (am_Z w) mX5_levelOf d 0 [(0, .int x0)] [] h Q
  refine Ev.iload_n 0 (am_dt kX5_levelOf 0 rfl) rfl rfl ?_
  by_cases c : x0 = 42
  · refine Ev.lookup (off := 73) (tgt := 74) (am_dt kX5_levelOf 1 rfl) (by decide) (by rw [c]; rfl) (by decide) ?_
    have k := k.1 c
    refine Ev.iconst (v := 3) (am_dt kX5_levelOf 8 rfl) (by decide) ?_
    exact Ev.iret .int (am_dt kX5_levelOf 9 rfl) rfl rfl k
  have k := k.2 c
  have c42 := am_ne (n := 42) (by decide) c
  clear c
  by_cases c : x0 = 43
  · refine Ev.lookup (off := 71) (tgt := 72) (am_dt kX5_levelOf 1 rfl) (by decide) (by rw [c]; rfl) (by decide) ?_
    have k := k.1 c
    refine Ev.iconst (v := 2) (am_dt kX5_levelOf 6 rfl) (by decide) ?_
    exact Ev.iret .int (am_dt kX5_levelOf 7 rfl) rfl rfl k
  have k := k.2 c
  have c43 := am_ne (n := 43) (by decide) c
  clear c
  by_cases c : x0 = 45
  · refine Ev.lookup (off := 71) (tgt := 72) (am_dt kX5_levelOf 1 rfl) (by decide) (by rw [c]; rfl) (by decide) ?_
    have k := k.1 c
    refine Ev.iconst (v := 2) (am_dt kX5_levelOf 6 rfl) (by decide) ?_
    exact Ev.iret .int (am_dt kX5_levelOf 7 rfl) rfl rfl k
  have k := k.2 c
  have c45 := am_ne (n := 45) (by decide) c
  clear c
  by_cases c : x0 = 60
  · refine Ev.lookup (off := 69) (tgt := 70) (am_dt kX5_levelOf 1 rfl) (by decide) (by rw [c]; rfl) (by decide) ?_
    have k := k.1 c
    refine Ev.iconst (v := 1) (am_dt kX5_levelOf 4 rfl) (by decide) ?_
    exact Ev.iret .int (am_dt kX5_levelOf 5 rfl) rfl rfl k
  have k := k.2 c
  have c60 := am_ne (n := 60) (by decide) c
  clear c
  by_cases c : x0 = 61
  · refine Ev.lookup (off := 69) (tgt := 70) (am_dt kX5_levelOf 1 rfl) (by decide) (by rw [c]; rfl) (by decide) ?_
    have k := k.1 c
    refine Ev.iconst (v := 1) (am_dt kX5_levelOf 4 rfl) (by decide) ?_
    exact Ev.iret .int (am_dt kX5_levelOf 5 rfl) rfl rfl k
  have k := k.2 c
  have c61 := am_ne (n := 61) (by decide) c
  clear c
  by_cases c : x0 = 88
  · refine Ev.lookup (off := 67) (tgt := 68) (am_dt kX5_levelOf 1 rfl) (by decide) (by rw [c]; rfl) (by decide) ?_
    have k := k.1 c
    refine Ev.iconst (v := 0) (am_dt kX5_levelOf 2 rfl) (by decide) ?_
    exact Ev.iret .int (am_dt kX5_levelOf 3 rfl) rfl rfl k
  have k := k.2 c
  have c88 := am_ne (n := 88) (by decide) c
  clear c
  by_cases c : x0 = 89
  · refine Ev.lookup (off := 67) (tgt := 68) (am_dt kX5_levelOf 1 rfl) (by decide) (by rw [c]; rfl) (by decide) ?_
    have k := k.1 c
    refine Ev.iconst (v := 0) (am_dt kX5_levelOf 2 rfl) (by decide) ?_
    exact Ev.iret .int (am_dt kX5_levelOf 3 rfl) rfl rfl k
  have k := k.2 c
  have c89 := am_ne (n := 89) (by decide) c
  clear c
  refine Ev.lookup (off := 75) (tgt := 76) (am_dt kX5_levelOf 1 rfl) (by decide) (by simp [Op.lookupswitch.offset, c42, c43, c45, c60, c61, c88, c89, Ne.symm]) (by decide) ?_
  refine Ev.iconst (v := (-1)) (am_dt kX5_levelOf 10 rfl) (by decide) ?_
  exact Ev.iret .int (am_dt kX5_levelOf 11 rfl) rfl rfl k
set_option maxRecDepth 20000 in
set_option maxHeartbeats 2000000 in
theorem bX5_part_0 {w : am_W} {d : Nat} {h : am_H} {Q : Option Value → am_H → Prop} {a0 : Nat} {x1 : Int32}  (k : (am_L 5 a0 h) ∧ (EvM w mX5_kind d [.ref a0] h (fun r3 h2 => ∃ v4 : Int32, r3 = some (.int v4) ∧ ((v4 < 75 → (Ev w (am_Z w) mX5_part (d + 1) 22 [(0, .ref a0), (1, .int x1), (2, .int v4)] [.int 0] h2 Q)) ∧ (¬ v4 < 75 → ((80 < v4 → (Ev w (am_Z w) mX5_part (d + 1) 22 [(0, .ref a0), (1, .int x1), (2, .int v4)] [.int 0] h2 Q)) ∧ (¬ 80 < v4 → (Ev w (am_Z w) mX5_part (d + 1) 22 [(0, .ref a0), (1, .int x1), (2, .int v4)] [.int 1] h2 Q)))))))) : EvM w mX5_part (d + 1) [.ref a0, .int x1] h Q := by
  show Ev w (am_Z w) mX5_part (d + 1) 0 [(0, .ref a0), (1, .int x1)] [] h Q
  refine Ev.aload_n 0 (am_dt kX5_part 0 rfl) rfl rfl ?_
  obtain ⟨f1, k⟩ := k
  refine Ev.callV (ci := 5) (v := mX5_kind) (As := []) (st := []) okX5_kind wd_107 wd_108 wd_109 (am_dt kX5_part 1 rfl) (by decide) rfl rfl (Nat.le_of_ble_eq_true rfl) (Nat.le_of_ble_eq_true rfl) f1.1 ?_
  refine EvM.mono k (fun r3 h2 k => ?_)
  obtain ⟨v4, rfl, k⟩ := k
  show Ev w _ _ _ 4 _ [.int v4] _ _
  refine Ev.istore_n (lv' := [(2, .int v4), (0, .ref a0), (1, .int x1)]) (am_dt kX5_part 2 rfl) rfl (by decide) rfl ?_
  refine Ev.iload_n 0 (am_dt kX5_part 3 rfl) rfl rfl ?_
  refine Ev.bipush (v := 75) (am_dt kX5_part 4 rfl) (by decide) ?_
  refine Ev.icmp_lt (tgt := 21) (am_dt kX5_part 5 rfl) (by decide) (fun c => ?_) (fun c => ?_)
  · have k := k.1 c
    refine Ev.iconst (v := 0) (am_dt kX5_part 11 rfl) (by decide) ?_
    exact Ev.sub [1, 2, 0] rfl k
  · have k := k.2 c
    refine Ev.iload_n 0 (am_dt kX5_part 6 rfl) rfl rfl ?_
    refine Ev.bipush (v := 80) (am_dt kX5_part 7 rfl) (by decide) ?_
    refine Ev.icmp_gt (tgt := 21) (am_dt kX5_part 8 rfl) (by decide) (fun c => ?_) (fun c => ?_)
    · have k := k.1 c
      refine Ev.iconst (v := 0) (am_dt kX5_part 11 rfl) (by decide) ?_
      exact Ev.sub [1, 2, 0] rfl k
    · have k := k.2 c
      refine Ev.iconst (v := 1) (am_dt kX5_part 9 rfl) (by decide) ?_
      refine Ev.goto (tgt := 22) (am_dt kX5_part 10 rfl) (by decide) ?_
      exact Ev.sub [1, 2, 0] rfl k
set_option maxRecDepth 20000 in
set_option maxHeartbeats 2000000 in
theorem bX5_part_22 {w : am_W} {d : Nat} {h : am_H} {Q : Option Value → am_H → Prop} {a0 : Nat} {x1 : Int32} {x2 : Int32} {s0 : Int32} (k : (x2 = 2 → (Ev w (am_Z w) mX5_part (d + 1) 50 [(0, .ref a0), (1, .int x1), (2, .int x2), (3, .int s0)] [] h Q)) ∧ (¬ x2 = 2 → ((x2 = 87 → (Ev w (am_Z w) mX5_part (d + 1) 50 [(0, .ref a0), (1, .int x1), (2, .int x2), (3, .int s0)] [] h Q)) ∧ (¬ x2 = 87 → ((x2 = 40 → (Ev w (am_Z w) mX5_part (d + 1) 50 [(0, .ref a0), (1, .int x1), (2, .int x2), (3, .int s0)] [] h Q)) ∧ (¬ x2 = 40 → ((s0 = 0 → ((am_L 5 a0 h) ∧ (EvM w mX5_wrong d [.ref a0, .int 1] h (fun r3 h2 => r3 = none ∧ (Q none h2))))) ∧ (¬ s0 = 0 → (Ev w (am_Z w) mX5_part (d + 1) 50 [(0, .ref a0), (1, .int x1), (2, .int x2), (3, .int s0)] [] h Q))))))))) : Ev w (am_Z w) mX5_part (d + 1) 22 [(0, .ref a0), (1, .int x1), (2, .int x2)] [.int s0] h Q := by
  refine Ev.istore_n (lv' := [(3, .int s0), (0, .ref a0), (1, .int x1), (2, .int x2)]) (am_dt kX5_part 12 rfl) rfl (by decide) rfl ?_
  refine Ev.iload_n 3 (am_dt kX5_part 13 rfl) rfl rfl ?_
  refine Ev.iconst (v := 2) (am_dt kX5_part 14 rfl) (by decide) ?_
  refine Ev.icmp_eq (tgt := 50) (am_dt kX5_part 15 rfl) (by decide) (fun c => ?_) (fun c => ?_)
  · have k := k.1 c
    exact Ev.sub [1, 2, 3, 0] rfl k
  · have k := k.2 c
    refine Ev.iload_n 3 (am_dt kX5_part 16 rfl) rfl rfl ?_
    refine Ev.bipush (v := 87) (am_dt kX5_part 17 rfl) (by decide) ?_
    refine Ev.icmp_eq (tgt := 50) (am_dt kX5_part 18 rfl) (by decide) (fun c => ?_) (fun c => ?_)
    · have k := k.1 c
      exact Ev.sub [1, 2, 3, 0] rfl k
    · have k := k.2 c
      refine Ev.iload_n 3 (am_dt kX5_part 19 rfl) rfl rfl ?_
      refine Ev.bipush (v := 40) (am_dt kX5_part 20 rfl) (by decide) ?_
      refine Ev.icmp_eq (tgt := 50) (am_dt kX5_part 21 rfl) (by decide) (fun c => ?_) (fun c => ?_)
      · have k := k.1 c
        exact Ev.sub [1, 2, 3, 0] rfl k
      · have k := k.2 c
        refine Ev.iload_n 0 (am_dt kX5_part 22 rfl) rfl rfl ?_
        refine Ev.if_ne (tgt := 50) (am_dt kX5_part 23 rfl) (by decide) (fun c => ?_) (fun c => ?_)
        · have k := k.2 c
          exact Ev.sub [1, 2, 3, 0] rfl k
        · have k := k.1 c
          refine Ev.aload_n 1 (am_dt kX5_part 24 rfl) rfl rfl ?_
          refine Ev.iconst (v := 1) (am_dt kX5_part 25 rfl) (by decide) ?_
          obtain ⟨f1, k⟩ := k
          refine Ev.callV (ci := 5) (v := mX5_wrong) (As := [.int 1]) (st := []) okX5_wrong wd_113 wd_114 wd_115 (am_dt kX5_part 26 rfl) (by decide) rfl rfl (Nat.le_of_ble_eq_true rfl) (Nat.le_of_ble_eq_true rfl) f1.1 ?_
          refine EvM.mono k (fun r3 h2 k => ?_)
          obtain ⟨rfl, k⟩ := k
          show Ev w _ _ _ 49 _ [] _ _
          exact Ev.vret (am_dt kX5_part 27 rfl) rfl k
set_option maxRecDepth 20000 in
set_option maxHeartbeats 2000000 in
theorem bX5_part_50 {w : am_W} {d : Nat} {h : am_H} {Q : Option Value → am_H → Prop} {a0 : Nat} {x1 : Int32} {x2 : Int32} {x3 : Int32}  (k : (x1 < 5 → ((x2 = 2 → ((am_L 5 a0 h) ∧ ((hR h a0 0 ≠ 0) ∧ ((am_L 8 (hR h a0 0) h) ∧ (EvM w mX8_numberValue d [.ref (hR h a0 0), .int (hI h a0 5)] h (fun r5 h4 => ∃ v6 : Int32, r5 = some (.int v6) ∧ (Ev w (am_Z w) mX5_part (d + 1) 81 [(0, .ref a0), (1, .int x1), (2, .int x2), (3, .int x3)] [.int v6] h4 Q))))))) ∧ (¬ x2 = 2 → (Ev w (am_Z w) mX5_part (d + 1) 81 [(0, .ref a0), (1, .int x1), (2, .int x2), (3, .int x3)] [.int 0] h Q)))) ∧ (¬ x1 < 5 → ((am_L 5 a0 h) ∧ (EvM w mX5_wrong d [.ref a0, .int 5] h (fun r9 h8 => r9 = none ∧ (Q none h8)))))) : Ev w (am_Z w) mX5_part (d + 1) 50 [(0, .ref a0), (1, .int x1), (2, .int x2), (3, .int x3)] [] h Q := by
  refine Ev.iload_n 1 (am_dt kX5_part 28 rfl) rfl rfl ?_
  refine Ev.iconst (v := 5) (am_dt kX5_part 29 rfl) (by decide) ?_
  refine Ev.icmp_lt (tgt := 61) (am_dt kX5_part 30 rfl) (by decide) (fun c => ?_) (fun c => ?_)
  · have k := k.1 c
    refine Ev.iload_n 2 (am_dt kX5_part 35 rfl) rfl rfl ?_
    refine Ev.iconst (v := 2) (am_dt kX5_part 36 rfl) (by decide) ?_
    refine Ev.icmp_ne (tgt := 80) (am_dt kX5_part 37 rfl) (by decide) (fun c => ?_) (fun c => ?_)
    · have k := k.2 c
      refine Ev.iconst (v := 0) (am_dt kX5_part 44 rfl) (by decide) ?_
      exact k
    · have k := k.1 c
      refine Ev.aload_n 0 (am_dt kX5_part 38 rfl) rfl rfl ?_
      obtain ⟨f1, k⟩ := k
      obtain ⟨f2, k⟩ := k
      refine Ev.getR (ci := 5) (k := 0) (am_dt kX5_part 39 rfl) (by decide) (by decide) rfl wd_99 f1.1 f2 ?_
      refine Ev.aload_n 0 (am_dt kX5_part 40 rfl) rfl rfl ?_
      refine Ev.getI (ci := 5) (k := 5) (am_dt kX5_part 41 rfl) (by decide) (by decide) rfl wd_102 f1.1 ?_
      obtain ⟨f3, k⟩ := k
      refine Ev.callV (ci := 8) (v := mX8_numberValue) (As := [.int (hI h a0 5)]) (st := []) okX8_numberValue wd_116 wd_117 wd_118 (am_dt kX5_part 42 rfl) (by decide) rfl rfl (Nat.le_of_ble_eq_true rfl) (Nat.le_of_ble_eq_true rfl) f3.1 ?_
      refine EvM.mono k (fun r5 h4 k => ?_)
      obtain ⟨v6, rfl, k⟩ := k
      show Ev w _ _ _ 77 _ [.int v6] _ _
      refine Ev.goto (tgt := 81) (am_dt kX5_part 43 rfl) (by decide) ?_
      exact k
  · have k := k.2 c
    refine Ev.aload_n 0 (am_dt kX5_part 31 rfl) rfl rfl ?_
    refine Ev.iconst (v := 5) (am_dt kX5_part 32 rfl) (by decide) ?_
    obtain ⟨f7, k⟩ := k
    refine Ev.callV (ci := 5) (v := mX5_wrong) (As := [.int 5]) (st := []) okX5_wrong wd_113 wd_114 wd_115 (am_dt kX5_part 33 rfl) (by decide) rfl rfl (Nat.le_of_ble_eq_true rfl) (Nat.le_of_ble_eq_true rfl) f7.1 ?_
    refine EvM.mono k (fun r9 h8 k => ?_)
    obtain ⟨rfl, k⟩ := k
    show Ev w _ _ _ 60 _ [] _ _
    exact Ev.vret (am_dt kX5_part 34 rfl) rfl k
set_option maxRecDepth 20000 in
set_option maxHeartbeats 2000000 in
theorem bX5_part_81 {w : am_W} {d : Nat} {h : am_H} {Q : Option Value → am_H → Prop} {a0 : Nat} {x1 : Int32} {x2 : Int32} {x3 : Int32} {s0 : Int32} (k : (am_L 5 a0 h) ∧ (EvM w mX5_step d [.ref a0] h (fun r3 h2 => r3 = none ∧ ((x2 = 2 → ((am_L 5 a0 h2) ∧ (EvM w mX5_write d [.ref a0, .int s0] h2 (fun r6 h5 => r6 = none ∧ (Q none h5))))) ∧ (¬ x2 = 2 → ((x2 = 87 → ((am_L 5 a0 h2) ∧ (EvM w mX5_part d [.ref a0, .int (x1 + 1)] h2 (fun r9 h8 => r9 = none ∧ ((am_L 5 a0 h8) ∧ (EvM w mX5_write d [.ref a0, .int ((-87))] h8 (fun r12 h11 => r12 = none ∧ (Q none h11)))))))) ∧ (¬ x2 = 87 → ((x3 = 0 → ((am_L 5 a0 h2) ∧ (EvM w mX5_chain d [.ref a0, .int 0, .int (x1 + 1)] h2 (fun r15 h14 => r15 = none ∧ ((am_L 5 a0 h14) ∧ (EvM w mX5_expect d [.ref a0, .int 41] h14 (fun r18 h17 => r18 = none ∧ (Q none h17)))))))) ∧ (¬ x3 = 0 → ((am_L 5 a0 h2) ∧ (EvM w mX5_write d [.ref a0, .int (-x2)] h2 (fun r21 h20 => r21 = none ∧ ((am_L 5 a0 h20) ∧ ((hR h20 a0 3 ≠ 0) ∧ ((am_L 6 (hR h20 a0 3) h20) ∧ ((x2 = 79 → (∀ h25 : am_H, h25 = sI h20 (hR h20 a0 3) 14 ((hI h20 (hR h20 a0 3) 14) ||| ((1 : Int32) <<< ((hI h20 (hR h20 a0 3) 13) &&& 31))) → (Q none h25))) ∧ (¬ x2 = 79 → ((x2 = 80 → (∀ h26 : am_H, h26 = sI h20 (hR h20 a0 3) 14 ((hI h20 (hR h20 a0 3) 14) ||| ((1 : Int32) <<< ((hI h20 (hR h20 a0 3) 13) &&& 31))) → (Q none h26))) ∧ (¬ x2 = 80 → (∀ h27 : am_H, h27 = sI h20 (hR h20 a0 3) 14 ((hI h20 (hR h20 a0 3) 14) ||| 0) → (Q none h27))))))))))))))))))))) : Ev w (am_Z w) mX5_part (d + 1) 81 [(0, .ref a0), (1, .int x1), (2, .int x2), (3, .int x3)] [.int s0] h Q := by
  refine Ev.istore (lv' := [(4, .int s0), (0, .ref a0), (1, .int x1), (2, .int x2), (3, .int x3)]) (am_dt kX5_part 45 rfl) (by decide) rfl ?_
  refine Ev.aload_n 1 (am_dt kX5_part 46 rfl) rfl rfl ?_
  obtain ⟨f1, k⟩ := k
  refine Ev.callV (ci := 5) (v := mX5_step) (As := []) (st := []) okX5_step wd_110 wd_111 wd_112 (am_dt kX5_part 47 rfl) (by decide) rfl rfl (Nat.le_of_ble_eq_true rfl) (Nat.le_of_ble_eq_true rfl) f1.1 ?_
  refine EvM.mono k (fun r3 h2 k => ?_)
  obtain ⟨rfl, k⟩ := k
  show Ev w _ _ _ 87 _ [] _ _
  refine Ev.iload_n 3 (am_dt kX5_part 48 rfl) rfl rfl ?_
  refine Ev.iconst (v := 2) (am_dt kX5_part 49 rfl) (by decide) ?_
  refine Ev.icmp_ne (tgt := 101) (am_dt kX5_part 50 rfl) (by decide) (fun c => ?_) (fun c => ?_)
  · have k := k.2 c
    refine Ev.iload_n 3 (am_dt kX5_part 55 rfl) rfl rfl ?_
    refine Ev.bipush (v := 87) (am_dt kX5_part 56 rfl) (by decide) ?_
    refine Ev.icmp_ne (tgt := 123) (am_dt kX5_part 57 rfl) (by decide) (fun c => ?_) (fun c => ?_)
    · have k := k.2 c
      refine Ev.iload_n 4 (am_dt kX5_part 67 rfl) rfl rfl ?_
      refine Ev.if_eq (tgt := 173) (am_dt kX5_part 68 rfl) (by decide) (fun c => ?_) (fun c => ?_)
      · have k := k.1 c
        refine Ev.aload_n 1 (am_dt kX5_part 93 rfl) rfl rfl ?_
        refine Ev.iconst (v := 0) (am_dt kX5_part 94 rfl) (by decide) ?_
        refine Ev.iload_n 2 (am_dt kX5_part 95 rfl) rfl rfl ?_
        refine Ev.iconst (v := 1) (am_dt kX5_part 96 rfl) (by decide) ?_
        refine Ev.iadd (am_dt kX5_part 97 rfl) ?_
        obtain ⟨f13, k⟩ := k
        refine Ev.callV (ci := 5) (v := mX5_chain) (As := [.int 0, .int (x1 + 1)]) (st := []) okX5_chain wd_160 wd_161 wd_162 (am_dt kX5_part 98 rfl) (by decide) rfl rfl (Nat.le_of_ble_eq_true rfl) (Nat.le_of_ble_eq_true rfl) f13.1 ?_
        refine EvM.mono k (fun r15 h14 k => ?_)
        obtain ⟨rfl, k⟩ := k
        show Ev w _ _ _ 181 _ [] _ _
        refine Ev.aload_n 1 (am_dt kX5_part 99 rfl) rfl rfl ?_
        refine Ev.bipush (v := 41) (am_dt kX5_part 100 rfl) (by decide) ?_
        obtain ⟨f16, k⟩ := k
        refine Ev.callV (ci := 5) (v := mX5_expect) (As := [.int 41]) (st := []) okX5_expect wd_122 wd_123 wd_124 (am_dt kX5_part 101 rfl) (by decide) rfl rfl (Nat.le_of_ble_eq_true rfl) (Nat.le_of_ble_eq_true rfl) f16.1 ?_
        refine EvM.mono k (fun r18 h17 k => ?_)
        obtain ⟨rfl, k⟩ := k
        show Ev w _ _ _ 187 _ [] _ _
        exact Ev.vret (am_dt kX5_part 102 rfl) rfl k
      · have k := k.2 c
        refine Ev.aload_n 1 (am_dt kX5_part 69 rfl) rfl rfl ?_
        refine Ev.iload_n 3 (am_dt kX5_part 70 rfl) rfl rfl ?_
        refine Ev.ineg (am_dt kX5_part 71 rfl) ?_
        obtain ⟨f19, k⟩ := k
        refine Ev.callV (ci := 5) (v := mX5_write) (As := [.int (-x2)]) (st := []) okX5_write wd_173 wd_174 wd_175 (am_dt kX5_part 72 rfl) (by decide) rfl rfl (Nat.le_of_ble_eq_true rfl) (Nat.le_of_ble_eq_true rfl) f19.1 ?_
        refine EvM.mono k (fun r21 h20 k => ?_)
        obtain ⟨rfl, k⟩ := k
        show Ev w _ _ _ 133 _ [] _ _
        refine Ev.aload_n 1 (am_dt kX5_part 73 rfl) rfl rfl ?_
        obtain ⟨f22, k⟩ := k
        obtain ⟨f23, k⟩ := k
        refine Ev.getR (ci := 5) (k := 3) (am_dt kX5_part 74 rfl) (by decide) (by decide) rfl wd_100 f22.1 f23 ?_
        refine Ev.dup (am_dt kX5_part 75 rfl) rfl ?_
        obtain ⟨f24, k⟩ := k
        refine Ev.getI (ci := 6) (k := 14) (am_dt kX5_part 76 rfl) (by decide) (by decide) rfl wd_176 f24.1 ?_
        refine Ev.iload_n 3 (am_dt kX5_part 77 rfl) rfl rfl ?_
        refine Ev.bipush (v := 79) (am_dt kX5_part 78 rfl) (by decide) ?_
        refine Ev.icmp_eq (tgt := 153) (am_dt kX5_part 79 rfl) (by decide) (fun c => ?_) (fun c => ?_)
        · have k := k.1 c
          refine Ev.iconst (v := 1) (am_dt kX5_part 83 rfl) (by decide) ?_
          refine Ev.aload_n 1 (am_dt kX5_part 84 rfl) rfl rfl ?_
          refine Ev.getR (ci := 5) (k := 3) (am_dt kX5_part 85 rfl) (by decide) (by decide) rfl wd_100 f22.1 f23 ?_
          refine Ev.getI (ci := 6) (k := 13) (am_dt kX5_part 86 rfl) (by decide) (by decide) rfl wd_159 f24.1 ?_
          refine Ev.ishl (am_dt kX5_part 87 rfl) ?_
          refine Ev.goto (tgt := 166) (am_dt kX5_part 88 rfl) (by decide) ?_
          refine Ev.ior (am_dt kX5_part 90 rfl) ?_
          refine Ev.putI' (ci := 6) (k := 14) (am_dt kX5_part 91 rfl) (by decide) (by decide) wd_176 rfl rfl rfl rfl f24.1 (fun h25 eh25 => ?_)
          have k := k h25 eh25
          have f22 := am_LsI eh25 f22
          have f24 := am_LsI eh25 f24
          refine Ev.goto (tgt := 187) (am_dt kX5_part 92 rfl) (by decide) ?_
          exact Ev.vret (am_dt kX5_part 102 rfl) rfl k
        · have k := k.2 c
          refine Ev.iload_n 3 (am_dt kX5_part 80 rfl) rfl rfl ?_
          refine Ev.bipush (v := 80) (am_dt kX5_part 81 rfl) (by decide) ?_
          refine Ev.icmp_ne (tgt := 165) (am_dt kX5_part 82 rfl) (by decide) (fun c => ?_) (fun c => ?_)
          · have k := k.2 c
            refine Ev.iconst (v := 0) (am_dt kX5_part 89 rfl) (by decide) ?_
            refine Ev.ior (am_dt kX5_part 90 rfl) ?_
            refine Ev.putI' (ci := 6) (k := 14) (am_dt kX5_part 91 rfl) (by decide) (by decide) wd_176 rfl rfl rfl rfl f24.1 (fun h27 eh27 => ?_)
            have k := k h27 eh27
            have f22 := am_LsI eh27 f22
            have f24 := am_LsI eh27 f24
            refine Ev.goto (tgt := 187) (am_dt kX5_part 92 rfl) (by decide) ?_
            exact Ev.vret (am_dt kX5_part 102 rfl) rfl k
          · have k := k.1 c
            refine Ev.iconst (v := 1) (am_dt kX5_part 83 rfl) (by decide) ?_
            refine Ev.aload_n 1 (am_dt kX5_part 84 rfl) rfl rfl ?_
            refine Ev.getR (ci := 5) (k := 3) (am_dt kX5_part 85 rfl) (by decide) (by decide) rfl wd_100 f22.1 f23 ?_
            refine Ev.getI (ci := 6) (k := 13) (am_dt kX5_part 86 rfl) (by decide) (by decide) rfl wd_159 f24.1 ?_
            refine Ev.ishl (am_dt kX5_part 87 rfl) ?_
            refine Ev.goto (tgt := 166) (am_dt kX5_part 88 rfl) (by decide) ?_
            refine Ev.ior (am_dt kX5_part 90 rfl) ?_
            refine Ev.putI' (ci := 6) (k := 14) (am_dt kX5_part 91 rfl) (by decide) (by decide) wd_176 rfl rfl rfl rfl f24.1 (fun h26 eh26 => ?_)
            have k := k h26 eh26
            have f22 := am_LsI eh26 f22
            have f24 := am_LsI eh26 f24
            refine Ev.goto (tgt := 187) (am_dt kX5_part 92 rfl) (by decide) ?_
            exact Ev.vret (am_dt kX5_part 102 rfl) rfl k
    · have k := k.1 c
      refine Ev.aload_n 1 (am_dt kX5_part 58 rfl) rfl rfl ?_
      refine Ev.iload_n 2 (am_dt kX5_part 59 rfl) rfl rfl ?_
      refine Ev.iconst (v := 1) (am_dt kX5_part 60 rfl) (by decide) ?_
      refine Ev.iadd (am_dt kX5_part 61 rfl) ?_
      obtain ⟨f7, k⟩ := k
      refine Ev.callV (ci := 5) (v := mX5_part) (As := [.int (x1 + 1)]) (st := []) okX5_part wd_168 wd_169 wd_170 (am_dt kX5_part 62 rfl) (by decide) rfl rfl (Nat.le_of_ble_eq_true rfl) (Nat.le_of_ble_eq_true rfl) f7.1 ?_
      refine EvM.mono k (fun r9 h8 k => ?_)
      obtain ⟨rfl, k⟩ := k
      show Ev w _ _ _ 114 _ [] _ _
      refine Ev.aload_n 1 (am_dt kX5_part 63 rfl) rfl rfl ?_
      refine Ev.bipush (v := (-87)) (am_dt kX5_part 64 rfl) (by decide) ?_
      obtain ⟨f10, k⟩ := k
      refine Ev.callV (ci := 5) (v := mX5_write) (As := [.int ((-87))]) (st := []) okX5_write wd_173 wd_174 wd_175 (am_dt kX5_part 65 rfl) (by decide) rfl rfl (Nat.le_of_ble_eq_true rfl) (Nat.le_of_ble_eq_true rfl) f10.1 ?_
      refine EvM.mono k (fun r12 h11 k => ?_)
      obtain ⟨rfl, k⟩ := k
      show Ev w _ _ _ 120 _ [] _ _
      refine Ev.goto (tgt := 187) (am_dt kX5_part 66 rfl) (by decide) ?_
      exact Ev.vret (am_dt kX5_part 102 rfl) rfl k
  · have k := k.1 c
    refine Ev.aload_n 1 (am_dt kX5_part 51 rfl) rfl rfl ?_
    refine Ev.iload 0 (am_dt kX5_part 52 rfl) rfl ?_
    obtain ⟨f4, k⟩ := k
    refine Ev.callV (ci := 5) (v := mX5_write) (As := [.int s0]) (st := []) okX5_write wd_173 wd_174 wd_175 (am_dt kX5_part 53 rfl) (by decide) rfl rfl (Nat.le_of_ble_eq_true rfl) (Nat.le_of_ble_eq_true rfl) f4.1 ?_
    refine EvM.mono k (fun r6 h5 k => ?_)
    obtain ⟨rfl, k⟩ := k
    show Ev w _ _ _ 98 _ [] _ _
    refine Ev.goto (tgt := 187) (am_dt kX5_part 54 rfl) (by decide) ?_
    exact Ev.vret (am_dt kX5_part 102 rfl) rfl k
