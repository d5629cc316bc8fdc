set_option maxRecDepth 20000 in
set_option maxHeartbeats 2000000 in
theorem bX9_get_0 {w : am_W} {d : Nat} {h : am_H} {Q : Option Value → am_H → Prop} {a0 : Nat} {x1 : Int32}  (k : (x1 < 0 → (Q (some (.int 0)) h)) ∧ (¬ x1 < 0 → ((hK h a0 = 12) ∧ (((nI (hN h a0)) ≤ x1 → (Q (some (.int 0)) h)) ∧ (¬ (nI (hN h a0)) ≤ x1 → ((vp_in x1 (hN h a0)) ∧ (Q (some (.int (hI h a0 (Int32.toNatClampNeg x1)))) h))))))) : EvM w mX9_get d [.ref a0, .int x1] h Q := by
  show Ev w (am_Z w) mX9_get d 0 [(0, .ref a0), (1, .int x1)] [] h Q
  refine Ev.iload_n 1 (am_dt kX9_get 0 rfl) rfl rfl ?_
  refine Ev.if_lt (tgt := 16) (am_dt kX9_get 1 rfl) (by decide) (fun c => ?_) (fun c => ?_)
  · have k := k.1 c
    refine Ev.iconst (v := 0) (am_dt kX9_get 10 rfl) (by decide) ?_
    exact Ev.iret .int (am_dt kX9_get 11 rfl) rfl rfl k
  · have k := k.2 c
    refine Ev.iload_n 1 (am_dt kX9_get 2 rfl) rfl rfl ?_
    refine Ev.aload_n 0 (am_dt kX9_get 3 rfl) rfl rfl ?_
    obtain ⟨f1, k⟩ := k
    refine Ev.alen 12 (am_dt kX9_get 4 rfl) (by decide) (by decide) f1 ?_
    refine Ev.icmp_ge (tgt := 16) (am_dt kX9_get 5 rfl) (by decide) (fun c => ?_) (fun c => ?_)
    · have k := k.1 c
      refine Ev.iconst (v := 0) (am_dt kX9_get 10 rfl) (by decide) ?_
      exact Ev.iret .int (am_dt kX9_get 11 rfl) rfl rfl k
    · have k := k.2 c
      refine Ev.aload_n 0 (am_dt kX9_get 6 rfl) rfl rfl ?_
      refine Ev.iload_n 1 (am_dt kX9_get 7 rfl) rfl rfl ?_
      obtain ⟨f2, k⟩ := k
      refine Ev.iald (am_dt kX9_get 8 rfl) f1 f2 ?_
      refine Ev.goto (tgt := 17) (am_dt kX9_get 9 rfl) (by decide) ?_
      exact Ev.iret .int (am_dt kX9_get 11 rfl) rfl rfl k
set_option maxRecDepth 20000 in
set_option maxHeartbeats 2000000 in
theorem bX9_set_0 {w : am_W} {d : Nat} {h : am_H} {Q : Option Value → am_H → Prop} {a0 : Nat} {x1 : Int32} {x2 : Int32}  (k : (x1 < 0 → (Q none h)) ∧ (¬ x1 < 0 → ((hK h a0 = 12) ∧ (((nI (hN h a0)) ≤ x1 → (Q none h)) ∧ (¬ (nI (hN h a0)) ≤ x1 → ((vp_in x1 (hN h a0)) ∧ (∀ h3 : am_H, h3 = sI h a0 (Int32.toNatClampNeg x1) x2 → (Q none h3)))))))) : EvM w mX9_set d [.ref a0, .int x1, .int x2] h Q := by
  show Ev w (am_Z w) mX9_set d 0 [(0, .ref a0), (1, .int x1), (2, .int x2)] [] h Q
  refine Ev.iload_n 1 (am_dt kX9_set 0 rfl) rfl rfl ?_
  refine Ev.if_lt (tgt := 14) (am_dt kX9_set 1 rfl) (by decide) (fun c => ?_) (fun c => ?_)
  · have k := k.1 c
    exact Ev.vret (am_dt kX9_set 10 rfl) rfl k
  · have k := k.2 c
    refine Ev.iload_n 1 (am_dt kX9_set 2 rfl) rfl rfl ?_
    refine Ev.aload_n 0 (am_dt kX9_set 3 rfl) rfl rfl ?_
    obtain ⟨f1, k⟩ := k
    refine Ev.alen 12 (am_dt kX9_set 4 rfl) (by decide) (by decide) f1 ?_
    refine Ev.icmp_ge (tgt := 14) (am_dt kX9_set 5 rfl) (by decide) (fun c => ?_) (fun c => ?_)
    · have k := k.1 c
      exact Ev.vret (am_dt kX9_set 10 rfl) rfl k
    · have k := k.2 c
      refine Ev.aload_n 0 (am_dt kX9_set 6 rfl) rfl rfl ?_
      refine Ev.iload_n 1 (am_dt kX9_set 7 rfl) rfl rfl ?_
      refine Ev.iload_n 2 (am_dt kX9_set 8 rfl) rfl rfl ?_
      obtain ⟨f2, k⟩ := k
      refine Ev.iast' (am_dt kX9_set 9 rfl) f1 f2 (fun h3 eh3 => ?_)
      have k := k h3 eh3
      have f1 := kI eh3 f1
      exact Ev.vret (am_dt kX9_set 10 rfl) rfl k
set_option maxRecDepth 20000 in
set_option maxHeartbeats 2000000 in
theorem bX9_isMinute_0 {w : am_W} {d : Nat} {h : am_H} {Q : Option Value → am_H → Prop} {x0 : Int32}  (k : (x0 < 0 → (Q (some (.int 0)) h)) ∧ (¬ x0 < 0 → ((1440 ≤ x0 → (Q (some (.int 0)) h)) ∧ (¬ 1440 ≤ x0 → (Q (some (.int 1)) h))))) : EvM w mX9_isMinute d [.int x0] h Q := by
  show Ev w (am_Z w) mX9_isMinute d 0 [(0, .int x0)] [] h Q
  refine Ev.iload_n 0 (am_dt kX9_isMinute 0 rfl) rfl rfl ?_
  refine Ev.if_lt (tgt := 15) (am_dt kX9_isMinute 1 rfl) (by decide) (fun c => ?_) (fun c => ?_)
  · have k := k.1 c
    refine Ev.iconst (v := 0) (am_dt kX9_isMinute 7 rfl) (by decide) ?_
    exact Ev.iret .boolean (am_dt kX9_isMinute 8 rfl) rfl rfl k
  · have k := k.2 c
    refine Ev.iload_n 0 (am_dt kX9_isMinute 2 rfl) rfl rfl ?_
    refine Ev.sipush (v := 1440) (am_dt kX9_isMinute 3 rfl) (by decide) ?_
    refine Ev.icmp_ge (tgt := 15) (am_dt kX9_isMinute 4 rfl) (by decide) (fun c => ?_) (fun c => ?_)
    · have k := k.1 c
      refine Ev.iconst (v := 0) (am_dt kX9_isMinute 7 rfl) (by decide) ?_
      exact Ev.iret .boolean (am_dt kX9_isMinute 8 rfl) rfl rfl k
    · have k := k.2 c
      refine Ev.iconst (v := 1) (am_dt kX9_isMinute 5 rfl) (by decide) ?_
      refine Ev.goto (tgt := 16) (am_dt kX9_isMinute 6 rfl) (by decide) ?_
      exact Ev.iret .boolean (am_dt kX9_isMinute 8 rfl) rfl rfl k
set_option maxRecDepth 20000 in
set_option maxHeartbeats 2000000 in
theorem bX9_orders_0 {w : am_W} {d : Nat} {h : am_H} {Q : Option Value → am_H → Prop} {x0 : Int32}  (k : Ev w (am_Z w) mX9_orders d 4 [(0, .int x0), (1, .long 1), (3, .int 0)] [] h Q) : EvM w mX9_orders d [.int x0] h Q := by
  show Ev w (am_Z w) mX9_orders d 0 [(0, .int x0)] [] h Q
  refine Ev.lconst (v := 1) (am_dt kX9_orders 0 rfl) (by decide) ?_
  refine Ev.lstore_n (lv' := [(1, .long 1), (0, .int x0)]) (am_dt kX9_orders 1 rfl) rfl (by decide) rfl ?_
  refine Ev.iconst (v := 0) (am_dt kX9_orders 2 rfl) (by decide) ?_
  refine Ev.istore_n (lv' := [(3, .int 0), (1, .long 1), (0, .int x0)]) (am_dt kX9_orders 3 rfl) rfl (by decide) rfl ?_
  exact Ev.sub [2, 1, 0] rfl k
set_option maxRecDepth 20000 in
set_option maxHeartbeats 2000000 in
theorem bX9_orders_4 {w : am_W} {d : Nat} {h : am_H} {Q : Option Value → am_H → Prop} {x0 : Int32} {y1 : Int64} {x3 : Int32}  (k : ((x0 - 1) ≤ x3 → (Q (some (.long (2 * y1))) h)) ∧ (¬ (x0 - 1) ≤ x3 → ((¬ (Int32.toInt64 (x3 + 2)) = 0) ∧ (Ev w (am_Z w) mX9_orders d 4 [(0, .int x0), (1, .long (((y1 * 2) * (Int32.toInt64 ((2 * x3) + 1))) / (Int32.toInt64 (x3 + 2)))), (3, .int (x3 + 1))] [] h Q)))) : Ev w (am_Z w) mX9_orders d 4 [(0, .int x0), (1, .long y1), (3, .int x3)] [] h Q := by
  refine Ev.iload_n 2 (am_dt kX9_orders 4 rfl) rfl rfl ?_
  refine Ev.iload_n 0 (am_dt kX9_orders 5 rfl) rfl rfl ?_
  refine Ev.iconst (v := 1) (am_dt kX9_orders 6 rfl) (by decide) ?_
  refine Ev.isub (am_dt kX9_orders 7 rfl) ?_
  refine Ev.icmp_ge (tgt := 35) (am_dt kX9_orders 8 rfl) (by decide) (fun c => ?_) (fun c => ?_)
  · have k := k.1 c
    refine Ev.ldc2 (v := 2) (am_dt kX9_orders 27 rfl) wd_0 ?_
    refine Ev.lload_n 1 (am_dt kX9_orders 28 rfl) rfl rfl ?_
    refine Ev.lmul (am_dt kX9_orders 29 rfl) ?_
    exact Ev.lret (am_dt kX9_orders 30 rfl) rfl k
  · have k := k.2 c
    refine Ev.lload_n 1 (am_dt kX9_orders 9 rfl) rfl rfl ?_
    refine Ev.ldc2 (v := 2) (am_dt kX9_orders 10 rfl) wd_0 ?_
    refine Ev.lmul (am_dt kX9_orders 11 rfl) ?_
    refine Ev.iconst (v := 2) (am_dt kX9_orders 12 rfl) (by decide) ?_
    refine Ev.iload_n 2 (am_dt kX9_orders 13 rfl) rfl rfl ?_
    refine Ev.imul (am_dt kX9_orders 14 rfl) ?_
    refine Ev.iconst (v := 1) (am_dt kX9_orders 15 rfl) (by decide) ?_
    refine Ev.iadd (am_dt kX9_orders 16 rfl) ?_
    refine Ev.i2l (am_dt kX9_orders 17 rfl) ?_
    refine Ev.lmul (am_dt kX9_orders 18 rfl) ?_
    refine Ev.iload_n 2 (am_dt kX9_orders 19 rfl) rfl rfl ?_
    refine Ev.iconst (v := 2) (am_dt kX9_orders 20 rfl) (by decide) ?_
    refine Ev.iadd (am_dt kX9_orders 21 rfl) ?_
    refine Ev.i2l (am_dt kX9_orders 22 rfl) ?_
    obtain ⟨f1, k⟩ := k
    refine Ev.ldiv (am_dt kX9_orders 23 rfl) f1 ?_
    refine Ev.lstore_n (lv' := [(1, .long (((y1 * 2) * (Int32.toInt64 ((2 * x3) + 1))) / (Int32.toInt64 (x3 + 2)))), (0, .int x0), (3, .int x3)]) (am_dt kX9_orders 24 rfl) rfl (by decide) rfl ?_
    refine Ev.iinc (v := x3 + 1) (lv' := [(3, .int (x3 + 1)), (1, .long (((y1 * 2) * (Int32.toInt64 ((2 * x3) + 1))) / (Int32.toInt64 (x3 + 2)))), (0, .int x0)]) 2 (am_dt kX9_orders 25 rfl) rfl rfl (by decide) rfl ?_
    refine Ev.goto (tgt := 4) (am_dt kX9_orders 26 rfl) (by decide) ?_
    exact Ev.sub [2, 1, 0] rfl k
set_option maxRecDepth 20000 in
set_option maxHeartbeats 2000000 in
theorem bX9_power_0 {w : am_W} {d : Nat} {h : am_H} {Q : Option Value → am_H → Prop} {y0 : Int64} {x2 : Int32}  (k : Ev w (am_Z w) mX9_power d 5 [(0, .long y0), (2, .int x2), (3, .long 1), (5, .int 0)] [] h Q) : EvM w mX9_power d [.long y0, .int x2] h Q := by
  show Ev w (am_Z w) mX9_power d 0 [(0, .long y0), (2, .int x2)] [] h Q
  refine Ev.lconst (v := 1) (am_dt kX9_power 0 rfl) (by decide) ?_
  refine Ev.lstore_n (lv' := [(3, .long 1), (0, .long y0), (2, .int x2)]) (am_dt kX9_power 1 rfl) rfl (by decide) rfl ?_
  refine Ev.iconst (v := 0) (am_dt kX9_power 2 rfl) (by decide) ?_
  refine Ev.istore (lv' := [(5, .int 0), (3, .long 1), (0, .long y0), (2, .int x2)]) (am_dt kX9_power 3 rfl) (by decide) rfl ?_
  exact Ev.sub [2, 3, 1, 0] rfl k
set_option maxRecDepth 20000 in
set_option maxHeartbeats 2000000 in
theorem bX9_power_5 {w : am_W} {d : Nat} {h : am_H} {Q : Option Value → am_H → Prop} {y0 : Int64} {x2 : Int32} {y3 : Int64} {x5 : Int32}  (k : (x2 ≤ x5 → (Q (some (.long y3)) h)) ∧ (¬ x2 ≤ x5 → (Ev w (am_Z w) mX9_power d 5 [(0, .long y0), (2, .int x2), (3, .long (y3 * y0)), (5, .int (x5 + 1))] [] h Q))) : Ev w (am_Z w) mX9_power d 5 [(0, .long y0), (2, .int x2), (3, .long y3), (5, .int x5)] [] h Q := by
  refine Ev.iload 3 (am_dt kX9_power 4 rfl) rfl ?_
  refine Ev.iload_n 1 (am_dt kX9_power 5 rfl) rfl rfl ?_
  refine Ev.icmp_ge (tgt := 21) (am_dt kX9_power 6 rfl) (by decide) (fun c => ?_) (fun c => ?_)
  · have k := k.1 c
    refine Ev.lload_n 2 (am_dt kX9_power 13 rfl) rfl rfl ?_
    exact Ev.lret (am_dt kX9_power 14 rfl) rfl k
  · have k := k.2 c
    refine Ev.lload_n 2 (am_dt kX9_power 7 rfl) rfl rfl ?_
    refine Ev.lload_n 0 (am_dt kX9_power 8 rfl) rfl rfl ?_
    refine Ev.lmul (am_dt kX9_power 9 rfl) ?_
    refine Ev.lstore_n (lv' := [(3, .long (y3 * y0)), (0, .long y0), (2, .int x2), (5, .int x5)]) (am_dt kX9_power 10 rfl) rfl (by decide) rfl ?_
    refine Ev.iinc (v := x5 + 1) (lv' := [(5, .int (x5 + 1)), (3, .long (y3 * y0)), (0, .long y0), (2, .int x2)]) 3 (am_dt kX9_power 11 rfl) rfl rfl (by decide) rfl ?_
    refine Ev.goto (tgt := 5) (am_dt kX9_power 12 rfl) (by decide) ?_
    exact Ev.sub [2, 3, 1, 0] rfl k
set_option maxRecDepth 20000 in
set_option maxHeartbeats 2000000 in
theorem bX9_lowest_0 {w : am_W} {d : Nat} {h : am_H} {Q : Option Value → am_H → Prop} {y0 : Int64} {y2 : Int64} {y4 : Int64}  (k : Ev w (am_Z w) mX9_lowest d 10 [(0, .long y0), (6, .long y2), (8, .long y4), (10, .int 0)] [] h Q) : EvM w mX9_lowest d [.long y0, .long y2, .long y4] h Q := by
  show Ev w (am_Z w) mX9_lowest d 0 [(0, .long y0), (2, .long y2), (4, .long y4)] [] h Q
  refine Ev.lload_n 1 (am_dt kX9_lowest 0 rfl) rfl rfl ?_
  refine Ev.lstore (lv' := [(6, .long y2), (0, .long y0), (2, .long y2), (4, .long y4)]) (am_dt kX9_lowest 1 rfl) (by decide) rfl ?_
  refine Ev.lload 3 (am_dt kX9_lowest 2 rfl) rfl ?_
  refine Ev.lstore (lv' := [(8, .long y4), (6, .long y2), (0, .long y0), (2, .long y2), (4, .long y4)]) (am_dt kX9_lowest 3 rfl) (by decide) rfl ?_
  refine Ev.iconst (v := 0) (am_dt kX9_lowest 4 rfl) (by decide) ?_
  refine Ev.istore (lv' := [(10, .int 0), (8, .long y4), (6, .long y2), (0, .long y0), (2, .long y2), (4, .long y4)]) (am_dt kX9_lowest 5 rfl) (by decide) rfl ?_
  exact Ev.sub [3, 2, 1, 0] rfl k
set_option maxRecDepth 20000 in
set_option maxHeartbeats 2000000 in
theorem bX9_lowest_10 {w : am_W} {d : Nat} {h : am_H} {Q : Option Value → am_H → Prop} {y0 : Int64} {y6 : Int64} {y8 : Int64} {x10 : Int32}  (k : (200 ≤ x10 → ((y6 = 0 → (Q (some (.long y0)) h)) ∧ (¬ y6 = 0 → ((¬ y6 = 0) ∧ (Q (some (.long (y0 / y6))) h))))) ∧ (¬ 200 ≤ x10 → ((y8 = 0 → ((y6 = 0 → (Q (some (.long y0)) h)) ∧ (¬ y6 = 0 → ((¬ y6 = 0) ∧ (Q (some (.long (y0 / y6))) h))))) ∧ (¬ y8 = 0 → ((¬ y8 = 0) ∧ (Ev w (am_Z w) mX9_lowest d 10 [(0, .long y0), (6, .long y8), (8, .long (y6 - y6 / y8 * y8)), (10, .int (x10 + 1))] [] h Q)))))) : Ev w (am_Z w) mX9_lowest d 10 [(0, .long y0), (6, .long y6), (8, .long y8), (10, .int x10)] [] h Q := by
  refine Ev.iload 3 (am_dt kX9_lowest 6 rfl) rfl ?_
  refine Ev.sipush (v := 200) (am_dt kX9_lowest 7 rfl) (by decide) ?_
  refine Ev.icmp_ge (tgt := 46) (am_dt kX9_lowest 8 rfl) (by decide) (fun c => ?_) (fun c => ?_)
  · have k := k.1 c
    refine Ev.lload 1 (am_dt kX9_lowest 23 rfl) rfl ?_
    refine Ev.lconst (v := 0) (am_dt kX9_lowest 24 rfl) (by decide) ?_
    refine Ev.lcmp (am_dt kX9_lowest 25 rfl) ?_
    refine Ev.if_ne (tgt := 57) (am_dt kX9_lowest 26 rfl) (by decide) (fun c => ?_) (fun c => ?_)
    · have k := k.2 (mt am_lc.mpr c)
      refine Ev.lload_n 0 (am_dt kX9_lowest 29 rfl) rfl rfl ?_
      refine Ev.lload 1 (am_dt kX9_lowest 30 rfl) rfl ?_
      obtain ⟨f1, k⟩ := k
      refine Ev.ldiv (am_dt kX9_lowest 31 rfl) f1 ?_
      exact Ev.lret (am_dt kX9_lowest 32 rfl) rfl k
    · have k := k.1 (am_lc.mp c)
      refine Ev.lload_n 0 (am_dt kX9_lowest 27 rfl) rfl rfl ?_
      refine Ev.goto (tgt := 61) (am_dt kX9_lowest 28 rfl) (by decide) ?_
      exact Ev.lret (am_dt kX9_lowest 32 rfl) rfl k
  · have k := k.2 c
    refine Ev.lload 2 (am_dt kX9_lowest 9 rfl) rfl ?_
    refine Ev.lconst (v := 0) (am_dt kX9_lowest 10 rfl) (by decide) ?_
    refine Ev.lcmp (am_dt kX9_lowest 11 rfl) ?_
    refine Ev.if_eq (tgt := 46) (am_dt kX9_lowest 12 rfl) (by decide) (fun c => ?_) (fun c => ?_)
    · have k := k.1 (am_lc.mp c)
      refine Ev.lload 1 (am_dt kX9_lowest 23 rfl) rfl ?_
      refine Ev.lconst (v := 0) (am_dt kX9_lowest 24 rfl) (by decide) ?_
      refine Ev.lcmp (am_dt kX9_lowest 25 rfl) ?_
      refine Ev.if_ne (tgt := 57) (am_dt kX9_lowest 26 rfl) (by decide) (fun c => ?_) (fun c => ?_)
      · have k := k.2 (mt am_lc.mpr c)
        refine Ev.lload_n 0 (am_dt kX9_lowest 29 rfl) rfl rfl ?_
        refine Ev.lload 1 (am_dt kX9_lowest 30 rfl) rfl ?_
        obtain ⟨f2, k⟩ := k
        refine Ev.ldiv (am_dt kX9_lowest 31 rfl) f2 ?_
        exact Ev.lret (am_dt kX9_lowest 32 rfl) rfl k
      · have k := k.1 (am_lc.mp c)
        refine Ev.lload_n 0 (am_dt kX9_lowest 27 rfl) rfl rfl ?_
        refine Ev.goto (tgt := 61) (am_dt kX9_lowest 28 rfl) (by decide) ?_
        exact Ev.lret (am_dt kX9_lowest 32 rfl) rfl k
    · have k := k.2 (mt am_lc.mpr c)
      refine Ev.lload 1 (am_dt kX9_lowest 13 rfl) rfl ?_
      refine Ev.lload 2 (am_dt kX9_lowest 14 rfl) rfl ?_
      obtain ⟨f3, k⟩ := k
      refine Ev.lrem (am_dt kX9_lowest 15 rfl) f3 ?_
      refine Ev.lstore (lv' := [(11, .long (y6 - y6 / y8 * y8)), (0, .long y0), (6, .long y6), (8, .long y8), (10, .int x10)]) (am_dt kX9_lowest 16 rfl) (by decide) rfl ?_
      refine Ev.lload 3 (am_dt kX9_lowest 17 rfl) rfl ?_
      refine Ev.lstore (lv' := [(6, .long y8), (11, .long (y6 - y6 / y8 * y8)), (0, .long y0), (8, .long y8), (10, .int x10)]) (am_dt kX9_lowest 18 rfl) (by decide) rfl ?_
      refine Ev.lload 1 (am_dt kX9_lowest 19 rfl) rfl ?_
      refine Ev.lstore (lv' := [(8, .long (y6 - y6 / y8 * y8)), (6, .long y8), (11, .long (y6 - y6 / y8 * y8)), (0, .long y0), (10, .int x10)]) (am_dt kX9_lowest 20 rfl) (by decide) rfl ?_
      refine Ev.iinc (v := x10 + 1) (lv' := [(10, .int (x10 + 1)), (8, .long (y6 - y6 / y8 * y8)), (6, .long y8), (11, .long (y6 - y6 / y8 * y8)), (0, .long y0)]) 4 (am_dt kX9_lowest 21 rfl) rfl rfl (by decide) rfl ?_
      refine Ev.goto (tgt := 10) (am_dt kX9_lowest 22 rfl) (by decide) ?_
      exact Ev.sub [4, 2, 1, 0] rfl k
