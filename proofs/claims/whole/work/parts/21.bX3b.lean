set_option maxRecDepth 20000 in
set_option maxHeartbeats 2000000 in
theorem bX3_costOf_0 {w : am_W} {d : Nat} {h : am_H} {Q : Option Value → am_H → Prop} {a0 : Nat} {x1 : Int32}  (k : (am_L 3 a0 h) ∧ ((hR h a0 12 ≠ 0) ∧ ((am_L 6 (hR h a0 12) h) ∧ (EvM w mX9_get d [.ref ((hR h a0 12) + 7), .int x1] h (fun r5 h4 => ∃ v6 : Int32, r5 = some (.int v6) ∧ ((am_L 3 a0 h4) ∧ (EvM w mX3_waitOf d [.ref a0, .int x1] h4 (fun r9 h8 => ∃ v10 : Int32, r9 = some (.int v10) ∧ (Q (some (.int (v6 * v10))) h8))))))))) : EvM w mX3_costOf (d + 1) [.ref a0, .int x1] h Q := by
  show Ev w (am_Z w) mX3_costOf (d + 1) 0 [(0, .ref a0), (1, .int x1)] [] h Q
  refine Ev.aload_n 0 (am_dt kX3_costOf 0 rfl) rfl rfl ?_
  obtain ⟨f1, k⟩ := k
  obtain ⟨f2, k⟩ := k
  refine Ev.getR (ci := 3) (k := 12) (am_dt kX3_costOf 1 rfl) (by decide) (by decide) rfl wd_191 f1.1 f2 ?_
  obtain ⟨f3, k⟩ := k
  refine Ev.getRe (ci := 6) (k := 1) (r := (hR h a0 12) + 7) (am_dt kX3_costOf 2 rfl) (by decide) (by decide) rfl wd_278 f3.1 (am_L.r f3 1 rfl) (by omega) ?_
  refine Ev.iload_n 1 (am_dt kX3_costOf 3 rfl) rfl rfl ?_
  refine Ev.callSN (v := mX9_get) (As := [.ref ((hR h a0 12) + 7), .int x1]) (st := []) okX9_get wd_19 wd_238 (am_dt kX3_costOf 4 rfl) rfl rfl (Nat.le_of_ble_eq_true rfl) (Nat.le_of_ble_eq_true rfl) ?_
  refine EvM.mono k (fun r5 h4 k => ?_)
  obtain ⟨v6, rfl, k⟩ := k
  show Ev w _ _ _ 11 _ [.int v6] _ _
  refine Ev.aload_n 0 (am_dt kX3_costOf 5 rfl) rfl rfl ?_
  refine Ev.iload_n 1 (am_dt kX3_costOf 6 rfl) rfl rfl ?_
  obtain ⟨f7, k⟩ := k
  refine Ev.callV (ci := 3) (v := mX3_waitOf) (As := [.int x1]) (st := [.int v6]) okX3_waitOf wd_275 wd_276 wd_277 (am_dt kX3_costOf 7 rfl) (by decide) rfl rfl (Nat.le_of_ble_eq_true rfl) (Nat.le_of_ble_eq_true rfl) f7.1 ?_
  refine EvM.mono k (fun r9 h8 k => ?_)
  obtain ⟨v10, rfl, k⟩ := k
  show Ev w _ _ _ 16 _ [.int v10, .int v6] _ _
  refine Ev.imul (am_dt kX3_costOf 8 rfl) ?_
  exact Ev.iret .int (am_dt kX3_costOf 9 rfl) rfl rfl k
set_option maxRecDepth 20000 in
set_option maxHeartbeats 2000000 in
theorem bX3_costWithout_0 {w : am_W} {d : Nat} {h : am_H} {Q : Option Value → am_H → Prop} {a0 : Nat} {x1 : Int32}  (k : Ev w (am_Z w) mX3_costWithout (d + 1) 4 [(0, .ref a0), (1, .int x1), (2, .int 0), (3, .int 0)] [] h Q) : EvM w mX3_costWithout (d + 1) [.ref a0, .int x1] h Q := by
  show Ev w (am_Z w) mX3_costWithout (d + 1) 0 [(0, .ref a0), (1, .int x1)] [] h Q
  refine Ev.iconst (v := 0) (am_dt kX3_costWithout 0 rfl) (by decide) ?_
  refine Ev.istore_n (lv' := [(2, .int 0), (0, .ref a0), (1, .int x1)]) (am_dt kX3_costWithout 1 rfl) rfl (by decide) rfl ?_
  refine Ev.iconst (v := 0) (am_dt kX3_costWithout 2 rfl) (by decide) ?_
  refine Ev.istore_n (lv' := [(3, .int 0), (2, .int 0), (0, .ref a0), (1, .int x1)]) (am_dt kX3_costWithout 3 rfl) rfl (by decide) rfl ?_
  exact Ev.sub [2, 3, 1, 0] rfl k
set_option maxRecDepth 20000 in
set_option maxHeartbeats 2000000 in
theorem bX3_costWithout_4 {w : am_W} {d : Nat} {h : am_H} {Q : Option Value → am_H → Prop} {a0 : Nat} {x1 : Int32} {x2 : Int32} {x3 : Int32}  (k : (am_L 3 a0 h) ∧ ((hR h a0 13 ≠ 0) ∧ ((am_L 2 (hR h a0 13) h) ∧ (((hI h (hR h a0 13) 5) ≤ x3 → (Q (some (.int x2)) h)) ∧ (¬ (hI h (hR h a0 13) 5) ≤ x3 → ((x3 = x1 → (Ev w (am_Z w) mX3_costWithout (d + 1) 4 [(0, .ref a0), (1, .int x1), (2, .int (x2 + 0)), (3, .int (x3 + 1))] [] h Q)) ∧ (¬ x3 = x1 → (EvM w mX3_costOf d [.ref a0, .int x3] h (fun r5 h4 => ∃ v6 : Int32, r5 = some (.int v6) ∧ (Ev w (am_Z w) mX3_costWithout (d + 1) 4 [(0, .ref a0), (1, .int x1), (2, .int (x2 + v6)), (3, .int (x3 + 1))] [] h4 Q)))))))))) : Ev w (am_Z w) mX3_costWithout (d + 1) 4 [(0, .ref a0), (1, .int x1), (2, .int x2), (3, .int x3)] [] h Q := by
  refine Ev.iload_n 3 (am_dt kX3_costWithout 4 rfl) rfl rfl ?_
  refine Ev.aload_n 0 (am_dt kX3_costWithout 5 rfl) rfl rfl ?_
  obtain ⟨f1, k⟩ := k
  obtain ⟨f2, k⟩ := k
  refine Ev.getR (ci := 3) (k := 13) (am_dt kX3_costWithout 6 rfl) (by decide) (by decide) rfl wd_193 f1.1 f2 ?_
  obtain ⟨f3, k⟩ := k
  refine Ev.getI (ci := 2) (k := 5) (am_dt kX3_costWithout 7 rfl) (by decide) (by decide) rfl wd_200 f3.1 ?_
  refine Ev.icmp_ge (tgt := 38) (am_dt kX3_costWithout 8 rfl) (by decide) (fun c => ?_) (fun c => ?_)
  · have k := k.1 c
    refine Ev.iload_n 2 (am_dt kX3_costWithout 22 rfl) rfl rfl ?_
    exact Ev.iret .int (am_dt kX3_costWithout 23 rfl) rfl rfl k
  · have k := k.2 c
    refine Ev.iload_n 2 (am_dt kX3_costWithout 9 rfl) rfl rfl ?_
    refine Ev.iload_n 3 (am_dt kX3_costWithout 10 rfl) rfl rfl ?_
    refine Ev.iload_n 1 (am_dt kX3_costWithout 11 rfl) rfl rfl ?_
    refine Ev.icmp_ne (tgt := 25) (am_dt kX3_costWithout 12 rfl) (by decide) (fun c => ?_) (fun c => ?_)
    · have k := k.2 c
      refine Ev.aload_n 0 (am_dt kX3_costWithout 15 rfl) rfl rfl ?_
      refine Ev.iload_n 3 (am_dt kX3_costWithout 16 rfl) rfl rfl ?_
      refine Ev.callV (ci := 3) (v := mX3_costOf) (As := [.int x3]) (st := [.int x2]) okX3_costOf wd_279 wd_280 wd_281 (am_dt kX3_costWithout 17 rfl) (by decide) rfl rfl (Nat.le_of_ble_eq_true rfl) (Nat.le_of_ble_eq_true rfl) f1.1 ?_
      refine EvM.mono k (fun r5 h4 k => ?_)
      obtain ⟨v6, rfl, k⟩ := k
      show Ev w _ _ _ 30 _ [.int v6, .int x2] _ _
      refine Ev.iadd (am_dt kX3_costWithout 18 rfl) ?_
      refine Ev.istore_n (lv' := [(2, .int (x2 + v6)), (0, .ref a0), (1, .int x1), (3, .int x3)]) (am_dt kX3_costWithout 19 rfl) rfl (by decide) rfl ?_
      refine Ev.iinc (v := x3 + 1) (lv' := [(3, .int (x3 + 1)), (2, .int (x2 + v6)), (0, .ref a0), (1, .int x1)]) 3 (am_dt kX3_costWithout 20 rfl) rfl rfl (by decide) rfl ?_
      refine Ev.goto (tgt := 4) (am_dt kX3_costWithout 21 rfl) (by decide) ?_
      exact Ev.sub [2, 3, 1, 0] rfl k
    · have k := k.1 c
      refine Ev.iconst (v := 0) (am_dt kX3_costWithout 13 rfl) (by decide) ?_
      refine Ev.goto (tgt := 30) (am_dt kX3_costWithout 14 rfl) (by decide) ?_
      refine Ev.iadd (am_dt kX3_costWithout 18 rfl) ?_
      refine Ev.istore_n (lv' := [(2, .int (x2 + 0)), (0, .ref a0), (1, .int x1), (3, .int x3)]) (am_dt kX3_costWithout 19 rfl) rfl (by decide) rfl ?_
      refine Ev.iinc (v := x3 + 1) (lv' := [(3, .int (x3 + 1)), (2, .int (x2 + 0)), (0, .ref a0), (1, .int x1)]) 3 (am_dt kX3_costWithout 20 rfl) rfl rfl (by decide) rfl ?_
      refine Ev.goto (tgt := 4) (am_dt kX3_costWithout 21 rfl) (by decide) ?_
      exact Ev.sub [2, 3, 1, 0] rfl k
