set_option maxRecDepth 20000 in
set_option maxHeartbeats 2000000 in
theorem bX4_init_0 {w : am_W} {d : Nat} {h : am_H} {Q : Option Value → am_H → Prop} {a0 : Nat}  (k : ∀ h1 : am_H, h1 = nO h 2 6 → (EvM w mX2_init d [.ref (hZ h), .int 300] h1 (fun r3 h2 => r3 = none ∧ ((hK h2 a0 = 4) ∧ ((hZ h ≠ 0) ∧ (∀ h6 : am_H, h6 = sR h2 a0 0 (hZ h) → (Q none h6))))))) : EvM w mX4_init (d + 1) [.ref a0] h Q := by
  show Ev w (am_Z w) mX4_init (d + 1) 0 [(0, .ref a0)] [] h Q
  refine Ev.aload_n 0 (am_dt kX4_init 0 rfl) rfl rfl ?_
  refine Ev.objI wd_282 wd_2 wd_3 (am_dt kX4_init 1 rfl) (Nat.le_of_ble_eq_true rfl) ?_
  refine Ev.aload_n 0 (am_dt kX4_init 2 rfl) rfl rfl ?_
  refine Ev.newO' (ci := 2) (am_dt kX4_init 3 rfl) (by decide) wd_285 wd_60 wd_61 (fun h1 eh1 => ?_)
  have k := k h1 eh1
  refine Ev.dup (am_dt kX4_init 4 rfl) rfl ?_
  refine Ev.sipush (v := 300) (am_dt kX4_init 5 rfl) (by decide) ?_
  refine Ev.callI (v := mX2_init) (As := [.int 300]) (st := [.ref (hZ h), .ref a0]) okX2_init wd_46 rfl rfl wd_283 (am_dt kX4_init 6 rfl) rfl rfl (Nat.le_of_ble_eq_true rfl) (Nat.le_of_ble_eq_true rfl) ?_
  refine EvM.mono k (fun r3 h2 k => ?_)
  obtain ⟨rfl, k⟩ := k
  show Ev w _ _ _ 15 _ [.ref (hZ h), .ref a0] _ _
  obtain ⟨f4, k⟩ := k
  obtain ⟨f5, k⟩ := k
  refine Ev.putRF' (ci := 4) (k := 0) (am_dt kX4_init 7 rfl) (by decide) (by decide) wd_284 rfl rfl rfl rfl rfl rfl f5 f4 (fun h6 eh6 => ?_)
  have k := k h6 eh6
  have f4 := kR eh6 f4
  exact Ev.vret (am_dt kX4_init 8 rfl) rfl k
set_option maxRecDepth 20000 in
set_option maxHeartbeats 2000000 in
theorem bX4_isKnown_0 {w : am_W} {d : Nat} {h : am_H} {Q : Option Value → am_H → Prop} {a0 : Nat} {x1 : Int32} {x2 : Int32}  (k : (am_L 4 a0 h) ∧ (((hI h a0 1) = 0 → (Q (some (.int 0)) h)) ∧ (¬ (hI h a0 1) = 0 → (((hI h a0 2) = x1 → (((hI h a0 3) = x2 → (Q (some (.int 1)) h)) ∧ (¬ (hI h a0 3) = x2 → (Q (some (.int 0)) h)))) ∧ (¬ (hI h a0 2) = x1 → (Q (some (.int 0)) h)))))) : EvM w mX4_isKnown d [.ref a0, .int x1, .int x2] h Q := by
  show Ev w (am_Z w) mX4_isKnown d 0 [(0, .ref a0), (1, .int x1), (2, .int x2)] [] h Q
  refine Ev.aload_n 0 (am_dt kX4_isKnown 0 rfl) rfl rfl ?_
  obtain ⟨f1, k⟩ := k
  refine Ev.getI (ci := 4) (k := 1) (am_dt kX4_isKnown 1 rfl) (by decide) (by decide) rfl wd_286 f1.1 ?_
  refine Ev.if_eq (tgt := 27) (am_dt kX4_isKnown 2 rfl) (by decide) (fun c => ?_) (fun c => ?_)
  · have k := k.1 c
    refine Ev.iconst (v := 0) (am_dt kX4_isKnown 13 rfl) (by decide) ?_
    exact Ev.iret .boolean (am_dt kX4_isKnown 14 rfl) rfl rfl k
  · have k := k.2 c
    refine Ev.aload_n 0 (am_dt kX4_isKnown 3 rfl) rfl rfl ?_
    refine Ev.getI (ci := 4) (k := 2) (am_dt kX4_isKnown 4 rfl) (by decide) (by decide) rfl wd_287 f1.1 ?_
    refine Ev.iload_n 1 (am_dt kX4_isKnown 5 rfl) rfl rfl ?_
    refine Ev.icmp_ne (tgt := 27) (am_dt kX4_isKnown 6 rfl) (by decide) (fun c => ?_) (fun c => ?_)
    · have k := k.2 c
      refine Ev.iconst (v := 0) (am_dt kX4_isKnown 13 rfl) (by decide) ?_
      exact Ev.iret .boolean (am_dt kX4_isKnown 14 rfl) rfl rfl k
    · have k := k.1 c
      refine Ev.aload_n 0 (am_dt kX4_isKnown 7 rfl) rfl rfl ?_
      refine Ev.getI (ci := 4) (k := 3) (am_dt kX4_isKnown 8 rfl) (by decide) (by decide) rfl wd_288 f1.1 ?_
      refine Ev.iload_n 2 (am_dt kX4_isKnown 9 rfl) rfl rfl ?_
      refine Ev.icmp_ne (tgt := 27) (am_dt kX4_isKnown 10 rfl) (by decide) (fun c => ?_) (fun c => ?_)
      · have k := k.2 c
        refine Ev.iconst (v := 0) (am_dt kX4_isKnown 13 rfl) (by decide) ?_
        exact Ev.iret .boolean (am_dt kX4_isKnown 14 rfl) rfl rfl k
      · have k := k.1 c
        refine Ev.iconst (v := 1) (am_dt kX4_isKnown 11 rfl) (by decide) ?_
        refine Ev.goto (tgt := 28) (am_dt kX4_isKnown 12 rfl) (by decide) ?_
        exact Ev.iret .boolean (am_dt kX4_isKnown 14 rfl) rfl rfl k
set_option maxRecDepth 20000 in
set_option maxHeartbeats 2000000 in
theorem bX4_go_0 {w : am_W} {d : Nat} {h : am_H} {Q : Option Value → am_H → Prop} {a0 : Nat} {a1 : Nat} {a2 : Nat} {x3 : Int32} {x4 : Int32}  (k : (am_L 4 a0 h) ∧ (∀ h2 : am_H, h2 = sJ h a0 9 (Int32.toInt64 x3) → (∀ h3 : am_H, h3 = sI h2 a0 4 0 → (∀ h4 : am_H, h4 = sI h3 a0 5 0 → (∀ h5 : am_H, h5 = sI h4 a0 6 0 → (∀ h6 : am_H, h6 = sI h5 a0 7 0 → (∀ h7 : am_H, h7 = sI h6 a0 8 0 → (Ev w (am_Z w) mX4_go (d + 1) 34 [(0, .ref a0), (1, .ref a1), (2, .ref a2), (3, .int x3), (4, .int x4), (5, .int 0)] [] h7 Q)))))))) : EvM w mX4_go (d + 1) [.ref a0, .ref a1, .ref a2, .int x3, .int x4] h Q := by
  show Ev w (am_Z w) mX4_go (d + 1) 0 [(0, .ref a0), (1, .ref a1), (2, .ref a2), (3, .int x3), (4, .int x4)] [] h Q
  refine Ev.aload_n 0 (am_dt kX4_go 0 rfl) rfl rfl ?_
  refine Ev.iload_n 3 (am_dt kX4_go 1 rfl) rfl rfl ?_
  refine Ev.i2l (am_dt kX4_go 2 rfl) ?_
  obtain ⟨f1, k⟩ := k
  refine Ev.putJ' (ci := 4) (k := 9) (am_dt kX4_go 3 rfl) (by decide) (by decide) wd_289 rfl rfl rfl rfl f1.1 (fun h2 eh2 => ?_)
  have k := k h2 eh2
  have f1 := am_LsJ eh2 f1
  refine Ev.aload_n 0 (am_dt kX4_go 4 rfl) rfl rfl ?_
  refine Ev.iconst (v := 0) (am_dt kX4_go 5 rfl) (by decide) ?_
  refine Ev.putI' (ci := 4) (k := 4) (am_dt kX4_go 6 rfl) (by decide) (by decide) wd_290 rfl rfl rfl rfl f1.1 (fun h3 eh3 => ?_)
  have k := k h3 eh3
  have f1 := am_LsI eh3 f1
  refine Ev.aload_n 0 (am_dt kX4_go 7 rfl) rfl rfl ?_
  refine Ev.iconst (v := 0) (am_dt kX4_go 8 rfl) (by decide) ?_
  refine Ev.putI' (ci := 4) (k := 5) (am_dt kX4_go 9 rfl) (by decide) (by decide) wd_291 rfl rfl rfl rfl f1.1 (fun h4 eh4 => ?_)
  have k := k h4 eh4
  have f1 := am_LsI eh4 f1
  refine Ev.aload_n 0 (am_dt kX4_go 10 rfl) rfl rfl ?_
  refine Ev.iconst (v := 0) (am_dt kX4_go 11 rfl) (by decide) ?_
  refine Ev.putI' (ci := 4) (k := 6) (am_dt kX4_go 12 rfl) (by decide) (by decide) wd_292 rfl rfl rfl rfl f1.1 (fun h5 eh5 => ?_)
  have k := k h5 eh5
  have f1 := am_LsI eh5 f1
  refine Ev.aload_n 0 (am_dt kX4_go 13 rfl) rfl rfl ?_
  refine Ev.iconst (v := 0) (am_dt kX4_go 14 rfl) (by decide) ?_
  refine Ev.putI' (ci := 4) (k := 7) (am_dt kX4_go 15 rfl) (by decide) (by decide) wd_293 rfl rfl rfl rfl f1.1 (fun h6 eh6 => ?_)
  have k := k h6 eh6
  have f1 := am_LsI eh6 f1
  refine Ev.aload_n 0 (am_dt kX4_go 16 rfl) rfl rfl ?_
  refine Ev.iconst (v := 0) (am_dt kX4_go 17 rfl) (by decide) ?_
  refine Ev.putI' (ci := 4) (k := 8) (am_dt kX4_go 18 rfl) (by decide) (by decide) wd_294 rfl rfl rfl rfl f1.1 (fun h7 eh7 => ?_)
  have k := k h7 eh7
  have f1 := am_LsI eh7 f1
  refine Ev.iconst (v := 0) (am_dt kX4_go 19 rfl) (by decide) ?_
  refine Ev.istore (lv' := [(5, .int 0), (0, .ref a0), (1, .ref a1), (2, .ref a2), (3, .int x3), (4, .int x4)]) (am_dt kX4_go 20 rfl) (by decide) rfl ?_
  exact Ev.sub [1, 2, 3, 4, 5, 0] rfl k
set_option maxRecDepth 20000 in
set_option maxHeartbeats 2000000 in
theorem bX4_go_34 {w : am_W} {d : Nat} {h : am_H} {Q : Option Value → am_H → Prop} {a0 : Nat} {a1 : Nat} {a2 : Nat} {x3 : Int32} {x4 : Int32} {x5 : Int32}  (k : (x4 ≤ x5 → ((am_L 4 a0 h) ∧ (∀ h2 : am_H, h2 = sI h a0 1 1 → (∀ h3 : am_H, h3 = sI h2 a0 2 x3 → (∀ h4 : am_H, h4 = sI h3 a0 3 x4 → (Q none h4)))))) ∧ (¬ x4 ≤ x5 → ((am_L 7 a1 h) ∧ ((hR h a1 1 ≠ 0) ∧ ((am_L 4 a0 h) ∧ (EvM w mX4_drawCrowd d [.ref a0, .ref (hR h a1 1)] h (fun r9 h8 => r9 = none ∧ ((am_L 7 a1 h8) ∧ ((hR h8 a1 1 ≠ 0) ∧ ((am_L 4 a0 h8) ∧ ((am_L 2 (a0 + 1) h8) ∧ ((am_L 3 a2 h8) ∧ (EvM w mX3_begin d [.ref a2, .ref (hR h8 a1 1), .int (hI h8 a1 2), .ref (a0 + 1), .ref (a0 + 3)] h8 (fun r16 h15 => r16 = none ∧ ((am_L 3 a2 h15) ∧ (EvM w mX3_run d [.ref a2, .int 1440] h15 (fun r19 h18 => r19 = none ∧ ((am_L 4 a0 h18) ∧ (EvM w mX4_addUp d [.ref a0, .ref a2] h18 (fun r22 h21 => r22 = none ∧ (Ev w (am_Z w) mX4_go (d + 1) 34 [(0, .ref a0), (1, .ref a1), (2, .ref a2), (3, .int x3), (4, .int x4), (5, .int (x5 + 1))] [] h21 Q))))))))))))))))))))) : Ev w (am_Z w) mX4_go (d + 1) 34 [(0, .ref a0), (1, .ref a1), (2, .ref a2), (3, .int x3), (4, .int x4), (5, .int x5)] [] h Q := by
  refine Ev.iload 5 (am_dt kX4_go 21 rfl) rfl ?_
  refine Ev.iload 4 (am_dt kX4_go 22 rfl) rfl ?_
  refine Ev.icmp_ge (tgt := 90) (am_dt kX4_go 23 rfl) (by decide) (fun c => ?_) (fun c => ?_)
  · have k := k.1 c
    refine Ev.aload_n 0 (am_dt kX4_go 47 rfl) rfl rfl ?_
    refine Ev.iconst (v := 1) (am_dt kX4_go 48 rfl) (by decide) ?_
    obtain ⟨f1, k⟩ := k
    refine Ev.putI' (ci := 4) (k := 1) (am_dt kX4_go 49 rfl) (by decide) (by decide) wd_286 rfl rfl rfl rfl f1.1 (fun h2 eh2 => ?_)
    have k := k h2 eh2
    have f1 := am_LsI eh2 f1
    refine Ev.aload_n 0 (am_dt kX4_go 50 rfl) rfl rfl ?_
    refine Ev.iload_n 3 (am_dt kX4_go 51 rfl) rfl rfl ?_
    refine Ev.putI' (ci := 4) (k := 2) (am_dt kX4_go 52 rfl) (by decide) (by decide) wd_287 rfl rfl rfl rfl f1.1 (fun h3 eh3 => ?_)
    have k := k h3 eh3
    have f1 := am_LsI eh3 f1
    refine Ev.aload_n 0 (am_dt kX4_go 53 rfl) rfl rfl ?_
    refine Ev.iload 4 (am_dt kX4_go 54 rfl) rfl ?_
    refine Ev.putI' (ci := 4) (k := 3) (am_dt kX4_go 55 rfl) (by decide) (by decide) wd_288 rfl rfl rfl rfl f1.1 (fun h4 eh4 => ?_)
    have k := k h4 eh4
    have f1 := am_LsI eh4 f1
    exact Ev.vret (am_dt kX4_go 56 rfl) rfl k
  · have k := k.2 c
    refine Ev.aload_n 0 (am_dt kX4_go 24 rfl) rfl rfl ?_
    refine Ev.aload_n 1 (am_dt kX4_go 25 rfl) rfl rfl ?_
    obtain ⟨f5, k⟩ := k
    obtain ⟨f6, k⟩ := k
    refine Ev.getR (ci := 7) (k := 1) (am_dt kX4_go 26 rfl) (by decide) (by decide) rfl wd_295 f5.1 f6 ?_
    obtain ⟨f7, k⟩ := k
    refine Ev.callV (ci := 4) (v := mX4_drawCrowd) (As := [.ref (hR h a1 1)]) (st := []) okX4_drawCrowd wd_296 wd_297 wd_298 (am_dt kX4_go 27 rfl) (by decide) rfl rfl (Nat.le_of_ble_eq_true rfl) (Nat.le_of_ble_eq_true rfl) f7.1 ?_
    refine EvM.mono k (fun r9 h8 k => ?_)
    obtain ⟨rfl, k⟩ := k
    show Ev w _ _ _ 49 _ [] _ _
    refine Ev.aload_n 2 (am_dt kX4_go 28 rfl) rfl rfl ?_
    refine Ev.aload_n 1 (am_dt kX4_go 29 rfl) rfl rfl ?_
    obtain ⟨f10, k⟩ := k
    obtain ⟨f11, k⟩ := k
    refine Ev.getR (ci := 7) (k := 1) (am_dt kX4_go 30 rfl) (by decide) (by decide) rfl wd_295 f10.1 f11 ?_
    refine Ev.aload_n 1 (am_dt kX4_go 31 rfl) rfl rfl ?_
    refine Ev.getI (ci := 7) (k := 2) (am_dt kX4_go 32 rfl) (by decide) (by decide) rfl wd_299 f10.1 ?_
    refine Ev.aload_n 0 (am_dt kX4_go 33 rfl) rfl rfl ?_
    obtain ⟨f12, k⟩ := k
    refine Ev.getRe (ci := 4) (k := 0) (r := a0 + 1) (am_dt kX4_go 34 rfl) (by decide) (by decide) rfl wd_284 f12.1 (am_L.r f12 0 rfl) (by omega) ?_
    refine Ev.aload_n 0 (am_dt kX4_go 35 rfl) rfl rfl ?_
    refine Ev.getRe (ci := 4) (k := 0) (r := a0 + 1) (am_dt kX4_go 36 rfl) (by decide) (by decide) rfl wd_284 f12.1 (am_L.r f12 0 rfl) (by omega) ?_
    obtain ⟨f13, k⟩ := k
    refine Ev.getRe (ci := 2) (k := 1) (r := a0 + 3) (am_dt kX4_go 37 rfl) (by decide) (by decide) rfl wd_300 f13.1 (am_L.r f13 1 rfl) (by omega) ?_
    obtain ⟨f14, k⟩ := k
    refine Ev.callV (ci := 3) (v := mX3_begin) (As := [.ref (hR h8 a1 1), .int (hI h8 a1 2), .ref (a0 + 1), .ref (a0 + 3)]) (st := []) okX3_begin wd_301 wd_302 wd_303 (am_dt kX4_go 38 rfl) (by decide) rfl rfl (Nat.le_of_ble_eq_true rfl) (Nat.le_of_ble_eq_true rfl) f14.1 ?_
    refine EvM.mono k (fun r16 h15 k => ?_)
    obtain ⟨rfl, k⟩ := k
    show Ev w _ _ _ 72 _ [] _ _
    refine Ev.aload_n 2 (am_dt kX4_go 39 rfl) rfl rfl ?_
    refine Ev.sipush (v := 1440) (am_dt kX4_go 40 rfl) (by decide) ?_
    obtain ⟨f17, k⟩ := k
    refine Ev.callV (ci := 3) (v := mX3_run) (As := [.int 1440]) (st := []) okX3_run wd_304 wd_305 wd_306 (am_dt kX4_go 41 rfl) (by decide) rfl rfl (Nat.le_of_ble_eq_true rfl) (Nat.le_of_ble_eq_true rfl) f17.1 ?_
    refine EvM.mono k (fun r19 h18 k => ?_)
    obtain ⟨rfl, k⟩ := k
    show Ev w _ _ _ 79 _ [] _ _
    refine Ev.aload_n 0 (am_dt kX4_go 42 rfl) rfl rfl ?_
    refine Ev.aload_n 2 (am_dt kX4_go 43 rfl) rfl rfl ?_
    obtain ⟨f20, k⟩ := k
    refine Ev.callV (ci := 4) (v := mX4_addUp) (As := [.ref a2]) (st := []) okX4_addUp wd_307 wd_308 wd_309 (am_dt kX4_go 44 rfl) (by decide) rfl rfl (Nat.le_of_ble_eq_true rfl) (Nat.le_of_ble_eq_true rfl) f20.1 ?_
    refine EvM.mono k (fun r22 h21 k => ?_)
    obtain ⟨rfl, k⟩ := k
    show Ev w _ _ _ 84 _ [] _ _
    refine Ev.iinc (v := x5 + 1) (lv' := [(5, .int (x5 + 1)), (0, .ref a0), (1, .ref a1), (2, .ref a2), (3, .int x3), (4, .int x4)]) 5 (am_dt kX4_go 45 rfl) rfl rfl (by decide) rfl ?_
    refine Ev.goto (tgt := 34) (am_dt kX4_go 46 rfl) (by decide) ?_
    exact Ev.sub [1, 2, 3, 4, 5, 0] rfl k
set_option maxRecDepth 20000 in
set_option maxHeartbeats 2000000 in
theorem bX4_drawCrowd_0 {w : am_W} {d : Nat} {h : am_H} {Q : Option Value → am_H → Prop} {a0 : Nat} {a1 : Nat}  (k : (am_L 4 a0 h) ∧ ((am_L 2 (a0 + 1) h) ∧ (∀ h3 : am_H, h3 = sI h (a0 + 1) 5 0 → (Ev w (am_Z w) mX4_drawCrowd (d + 1) 10 [(0, .ref a0), (1, .ref a1), (2, .int 0)] [] h3 Q)))) : EvM w mX4_drawCrowd (d + 1) [.ref a0, .ref a1] h Q := by
  show Ev w (am_Z w) mX4_drawCrowd (d + 1) 0 [(0, .ref a0), (1, .ref a1)] [] h Q
  refine Ev.aload_n 0 (am_dt kX4_drawCrowd 0 rfl) rfl rfl ?_
  obtain ⟨f1, k⟩ := k
  refine Ev.getRe (ci := 4) (k := 0) (r := a0 + 1) (am_dt kX4_drawCrowd 1 rfl) (by decide) (by decide) rfl wd_284 f1.1 (am_L.r f1 0 rfl) (by omega) ?_
  refine Ev.iconst (v := 0) (am_dt kX4_drawCrowd 2 rfl) (by decide) ?_
  obtain ⟨f2, k⟩ := k
  refine Ev.putI' (ci := 2) (k := 5) (am_dt kX4_drawCrowd 3 rfl) (by decide) (by decide) wd_310 rfl rfl rfl rfl f2.1 (fun h3 eh3 => ?_)
  have k := k h3 eh3
  have f1 := am_LsI eh3 f1
  have f2 := am_LsI eh3 f2
  refine Ev.iconst (v := 0) (am_dt kX4_drawCrowd 4 rfl) (by decide) ?_
  refine Ev.istore_n (lv' := [(2, .int 0), (0, .ref a0), (1, .ref a1)]) (am_dt kX4_drawCrowd 5 rfl) rfl (by decide) rfl ?_
  exact Ev.sub [1, 2, 0] rfl k
set_option maxRecDepth 20000 in
set_option maxHeartbeats 2000000 in
theorem bX4_drawCrowd_10 {w : am_W} {d : Nat} {h : am_H} {Q : Option Value → am_H → Prop} {a0 : Nat} {a1 : Nat} {x2 : Int32}  (k : (1440 ≤ x2 → (Q none h)) ∧ (¬ 1440 ≤ x2 → ((am_L 4 a0 h) ∧ ((am_L 2 (a0 + 1) h) ∧ ((300 ≤ (hI h (a0 + 1) 5) → (Q none h)) ∧ (¬ 300 ≤ (hI h (a0 + 1) 5) → (EvM w mX4_draw d [.ref a0, .int 1000] h (fun r4 h3 => ∃ v5 : Int32, r4 = some (.int v5) ∧ ((am_L 6 a1 h3) ∧ (((hI h3 a1 11) ≤ v5 → (Ev w (am_Z w) mX4_drawCrowd (d + 1) 10 [(0, .ref a0), (1, .ref a1), (2, .int (x2 + 1))] [] h3 Q)) ∧ (¬ (hI h3 a1 11) ≤ v5 → ((am_L 4 a0 h3) ∧ (EvM w mX4_draw d [.ref a0, .int (hI h3 a1 10)] h3 (fun r9 h8 => ∃ v10 : Int32, r9 = some (.int v10) ∧ ((am_L 6 a1 h8) ∧ (((hI h8 a1 9) ≤ v10 → ((am_L 4 a0 h8) ∧ (EvM w mX2_add d [.ref (a0 + 1), .int x2, .int 1, .int 70, .int 2] h8 (fun r14 h13 => r14 = none ∧ (Ev w (am_Z w) mX4_drawCrowd (d + 1) 10 [(0, .ref a0), (1, .ref a1), (2, .int (x2 + 1))] [] h13 Q))))) ∧ (¬ (hI h8 a1 9) ≤ v10 → ((am_L 4 a0 h8) ∧ (EvM w mX2_add d [.ref (a0 + 1), .int x2, .int 0, .int 70, .int 2] h8 (fun r17 h16 => r17 = none ∧ (Ev w (am_Z w) mX4_drawCrowd (d + 1) 10 [(0, .ref a0), (1, .ref a1), (2, .int (x2 + 1))] [] h16 Q))))))))))))))))))))) : Ev w (am_Z w) mX4_drawCrowd (d + 1) 10 [(0, .ref a0), (1, .ref a1), (2, .int x2)] [] h Q := by
  refine Ev.iload_n 2 (am_dt kX4_drawCrowd 6 rfl) rfl rfl ?_
  refine Ev.sipush (v := 1440) (am_dt kX4_drawCrowd 7 rfl) (by decide) ?_
  refine Ev.icmp_ge (tgt := 83) (am_dt kX4_drawCrowd 8 rfl) (by decide) (fun c => ?_) (fun c => ?_)
  · have k := k.1 c
    exact Ev.vret (am_dt kX4_drawCrowd 40 rfl) rfl k
  · have k := k.2 c
    refine Ev.aload_n 0 (am_dt kX4_drawCrowd 9 rfl) rfl rfl ?_
    obtain ⟨f1, k⟩ := k
    refine Ev.getRe (ci := 4) (k := 0) (r := a0 + 1) (am_dt kX4_drawCrowd 10 rfl) (by decide) (by decide) rfl wd_284 f1.1 (am_L.r f1 0 rfl) (by omega) ?_
    obtain ⟨f2, k⟩ := k
    refine Ev.getI (ci := 2) (k := 5) (am_dt kX4_drawCrowd 11 rfl) (by decide) (by decide) rfl wd_310 f2.1 ?_
    refine Ev.sipush (v := 300) (am_dt kX4_drawCrowd 12 rfl) (by decide) ?_
    refine Ev.icmp_ge (tgt := 83) (am_dt kX4_drawCrowd 13 rfl) (by decide) (fun c => ?_) (fun c => ?_)
    · have k := k.1 c
      exact Ev.vret (am_dt kX4_drawCrowd 40 rfl) rfl k
    · have k := k.2 c
      refine Ev.aload_n 0 (am_dt kX4_drawCrowd 14 rfl) rfl rfl ?_
      refine Ev.sipush (v := 1000) (am_dt kX4_drawCrowd 15 rfl) (by decide) ?_
      refine Ev.callV (ci := 4) (v := mX4_draw) (As := [.int 1000]) (st := []) okX4_draw wd_311 wd_312 wd_313 (am_dt kX4_drawCrowd 16 rfl) (by decide) rfl rfl (Nat.le_of_ble_eq_true rfl) (Nat.le_of_ble_eq_true rfl) f1.1 ?_
      refine EvM.mono k (fun r4 h3 k => ?_)
      obtain ⟨v5, rfl, k⟩ := k
      show Ev w _ _ _ 37 _ [.int v5] _ _
      refine Ev.aload_n 1 (am_dt kX4_drawCrowd 17 rfl) rfl rfl ?_
      obtain ⟨f6, k⟩ := k
      refine Ev.getI (ci := 6) (k := 11) (am_dt kX4_drawCrowd 18 rfl) (by decide) (by decide) rfl wd_314 f6.1 ?_
      refine Ev.icmp_ge (tgt := 77) (am_dt kX4_drawCrowd 19 rfl) (by decide) (fun c => ?_) (fun c => ?_)
      · have k := k.1 c
        refine Ev.iinc (v := x2 + 1) (lv' := [(2, .int (x2 + 1)), (0, .ref a0), (1, .ref a1)]) 2 (am_dt kX4_drawCrowd 38 rfl) rfl rfl (by decide) rfl ?_
        refine Ev.goto (tgt := 10) (am_dt kX4_drawCrowd 39 rfl) (by decide) ?_
        exact Ev.sub [1, 2, 0] rfl k
      · have k := k.2 c
        refine Ev.aload_n 0 (am_dt kX4_drawCrowd 20 rfl) rfl rfl ?_
        refine Ev.aload_n 1 (am_dt kX4_drawCrowd 21 rfl) rfl rfl ?_
        refine Ev.getI (ci := 6) (k := 10) (am_dt kX4_drawCrowd 22 rfl) (by decide) (by decide) rfl wd_315 f6.1 ?_
        obtain ⟨f7, k⟩ := k
        refine Ev.callV (ci := 4) (v := mX4_draw) (As := [.int (hI h3 a1 10)]) (st := []) okX4_draw wd_311 wd_312 wd_313 (am_dt kX4_drawCrowd 23 rfl) (by decide) rfl rfl (Nat.le_of_ble_eq_true rfl) (Nat.le_of_ble_eq_true rfl) f7.1 ?_
        refine EvM.mono k (fun r9 h8 k => ?_)
        obtain ⟨v10, rfl, k⟩ := k
        show Ev w _ _ _ 52 _ [.int v10] _ _
        refine Ev.aload_n 1 (am_dt kX4_drawCrowd 24 rfl) rfl rfl ?_
        obtain ⟨f11, k⟩ := k
        refine Ev.getI (ci := 6) (k := 9) (am_dt kX4_drawCrowd 25 rfl) (by decide) (by decide) rfl wd_316 f11.1 ?_
        refine Ev.icmp_ge (tgt := 63) (am_dt kX4_drawCrowd 26 rfl) (by decide) (fun c => ?_) (fun c => ?_)
        · have k := k.1 c
          refine Ev.iconst (v := 1) (am_dt kX4_drawCrowd 29 rfl) (by decide) ?_
          refine Ev.istore_n (lv' := [(3, .int 1), (0, .ref a0), (1, .ref a1), (2, .int x2)]) (am_dt kX4_drawCrowd 30 rfl) rfl (by decide) rfl ?_
          refine Ev.aload_n 1 (am_dt kX4_drawCrowd 31 rfl) rfl rfl ?_
          obtain ⟨f12, k⟩ := k
          refine Ev.getRe (ci := 4) (k := 0) (r := a0 + 1) (am_dt kX4_drawCrowd 32 rfl) (by decide) (by decide) rfl wd_284 f12.1 (am_L.r f12 0 rfl) (by omega) ?_
          refine Ev.iload_n 3 (am_dt kX4_drawCrowd 33 rfl) rfl rfl ?_
          refine Ev.iload_n 0 (am_dt kX4_drawCrowd 34 rfl) rfl rfl ?_
          refine Ev.bipush (v := 70) (am_dt kX4_drawCrowd 35 rfl) (by decide) ?_
          refine Ev.iconst (v := 2) (am_dt kX4_drawCrowd 36 rfl) (by decide) ?_
          refine Ev.callV (ci := 2) (v := mX2_add) (As := [.int x2, .int 1, .int 70, .int 2]) (st := []) okX2_add wd_66 wd_67 wd_317 (am_dt kX4_drawCrowd 37 rfl) (by decide) rfl rfl (Nat.le_of_ble_eq_true rfl) (Nat.le_of_ble_eq_true rfl) (am_L.s f12 0 rfl) ?_
          refine EvM.mono k (fun r14 h13 k => ?_)
          obtain ⟨rfl, k⟩ := k
          show Ev w _ _ _ 77 _ [] _ _
          refine Ev.iinc (v := x2 + 1) (lv' := [(2, .int (x2 + 1)), (3, .int 1), (0, .ref a0), (1, .ref a1)]) 3 (am_dt kX4_drawCrowd 38 rfl) rfl rfl (by decide) rfl ?_
          refine Ev.goto (tgt := 10) (am_dt kX4_drawCrowd 39 rfl) (by decide) ?_
          exact Ev.sub [2, 3, 0] rfl k
        · have k := k.2 c
          refine Ev.iconst (v := 0) (am_dt kX4_drawCrowd 27 rfl) (by decide) ?_
          refine Ev.goto (tgt := 64) (am_dt kX4_drawCrowd 28 rfl) (by decide) ?_
          refine Ev.istore_n (lv' := [(3, .int 0), (0, .ref a0), (1, .ref a1), (2, .int x2)]) (am_dt kX4_drawCrowd 30 rfl) rfl (by decide) rfl ?_
          refine Ev.aload_n 1 (am_dt kX4_drawCrowd 31 rfl) rfl rfl ?_
          obtain ⟨f15, k⟩ := k
          refine Ev.getRe (ci := 4) (k := 0) (r := a0 + 1) (am_dt kX4_drawCrowd 32 rfl) (by decide) (by decide) rfl wd_284 f15.1 (am_L.r f15 0 rfl) (by omega) ?_
          refine Ev.iload_n 3 (am_dt kX4_drawCrowd 33 rfl) rfl rfl ?_
          refine Ev.iload_n 0 (am_dt kX4_drawCrowd 34 rfl) rfl rfl ?_
          refine Ev.bipush (v := 70) (am_dt kX4_drawCrowd 35 rfl) (by decide) ?_
          refine Ev.iconst (v := 2) (am_dt kX4_drawCrowd 36 rfl) (by decide) ?_
          refine Ev.callV (ci := 2) (v := mX2_add) (As := [.int x2, .int 0, .int 70, .int 2]) (st := []) okX2_add wd_66 wd_67 wd_317 (am_dt kX4_drawCrowd 37 rfl) (by decide) rfl rfl (Nat.le_of_ble_eq_true rfl) (Nat.le_of_ble_eq_true rfl) (am_L.s f15 0 rfl) ?_
          refine EvM.mono k (fun r17 h16 k => ?_)
          obtain ⟨rfl, k⟩ := k
          show Ev w _ _ _ 77 _ [] _ _
          refine Ev.iinc (v := x2 + 1) (lv' := [(2, .int (x2 + 1)), (3, .int 0), (0, .ref a0), (1, .ref a1)]) 3 (am_dt kX4_drawCrowd 38 rfl) rfl rfl (by decide) rfl ?_
          refine Ev.goto (tgt := 10) (am_dt kX4_drawCrowd 39 rfl) (by decide) ?_
          exact Ev.sub [2, 3, 0] rfl k
set_option maxRecDepth 20000 in
set_option maxHeartbeats 2000000 in
theorem bX4_draw_0 {w : am_W} {d : Nat} {h : am_H} {Q : Option Value → am_H → Prop} {a0 : Nat} {x1 : Int32}  (k : (am_L 4 a0 h) ∧ (∀ h2 : am_H, h2 = sJ h a0 9 ((((hJ h a0 9) * 1103515245) + 12345) - (((hJ h a0 9) * 1103515245) + 12345) / 2147483648 * 2147483648) → ((x1 ≤ 0 → (Q (some (.int 0)) h2)) ∧ (¬ x1 ≤ 0 → ((¬ (Int32.toInt64 x1) = 0) ∧ (Q (some (.int (Int64.toInt32 (((hJ h2 a0 9) / 65536) - ((hJ h2 a0 9) / 65536) / (Int32.toInt64 x1) * (Int32.toInt64 x1))))) h2)))))) : EvM w mX4_draw d [.ref a0, .int x1] h Q := by
  show Ev w (am_Z w) mX4_draw d 0 [(0, .ref a0), (1, .int x1)] [] h Q
  refine Ev.aload_n 0 (am_dt kX4_draw 0 rfl) rfl rfl ?_
  refine Ev.aload_n 0 (am_dt kX4_draw 1 rfl) rfl rfl ?_
  obtain ⟨f1, k⟩ := k
  refine Ev.getJ (ci := 4) (k := 9) (am_dt kX4_draw 2 rfl) (by decide) (by decide) rfl wd_289 f1.1 ?_
  refine Ev.ldc2 (v := 1103515245) (am_dt kX4_draw 3 rfl) wd_318 ?_
  refine Ev.lmul (am_dt kX4_draw 4 rfl) ?_
  refine Ev.ldc2 (v := 12345) (am_dt kX4_draw 5 rfl) wd_319 ?_
  refine Ev.ladd (am_dt kX4_draw 6 rfl) ?_
  refine Ev.ldc2 (v := 2147483648) (am_dt kX4_draw 7 rfl) wd_320 ?_
  refine Ev.lrem (am_dt kX4_draw 8 rfl) (by decide) ?_
  refine Ev.putJ' (ci := 4) (k := 9) (am_dt kX4_draw 9 rfl) (by decide) (by decide) wd_289 rfl rfl rfl rfl f1.1 (fun h2 eh2 => ?_)
  have k := k h2 eh2
  have f1 := am_LsJ eh2 f1
  refine Ev.iload_n 1 (am_dt kX4_draw 10 rfl) rfl rfl ?_
  refine Ev.if_le (tgt := 39) (am_dt kX4_draw 11 rfl) (by decide) (fun c => ?_) (fun c => ?_)
  · have k := k.1 c
    refine Ev.iconst (v := 0) (am_dt kX4_draw 21 rfl) (by decide) ?_
    exact Ev.iret .int (am_dt kX4_draw 22 rfl) rfl rfl k
  · have k := k.2 c
    refine Ev.aload_n 0 (am_dt kX4_draw 12 rfl) rfl rfl ?_
    refine Ev.getJ (ci := 4) (k := 9) (am_dt kX4_draw 13 rfl) (by decide) (by decide) rfl wd_289 f1.1 ?_
    refine Ev.ldc2 (v := 65536) (am_dt kX4_draw 14 rfl) wd_321 ?_
    refine Ev.ldiv (am_dt kX4_draw 15 rfl) (by decide) ?_
    refine Ev.iload_n 1 (am_dt kX4_draw 16 rfl) rfl rfl ?_
    refine Ev.i2l (am_dt kX4_draw 17 rfl) ?_
    obtain ⟨f3, k⟩ := k
    refine Ev.lrem (am_dt kX4_draw 18 rfl) f3 ?_
    refine Ev.l2i (am_dt kX4_draw 19 rfl) ?_
    refine Ev.goto (tgt := 40) (am_dt kX4_draw 20 rfl) (by decide) ?_
    exact Ev.iret .int (am_dt kX4_draw 22 rfl) rfl rfl k
set_option maxRecDepth 20000 in
set_option maxHeartbeats 2000000 in
theorem bX4_addUp_0 {w : am_W} {d : Nat} {h : am_H} {Q : Option Value → am_H → Prop} {a0 : Nat} {a1 : Nat}  (k : (am_L 4 a0 h) ∧ ((am_L 3 a1 h) ∧ (∀ h3 : am_H, h3 = sI h a0 4 ((hI h a0 4) + (hI h a1 10)) → ((am_L 2 (a0 + 1) h3) ∧ (∀ h5 : am_H, h5 = sI h3 a0 5 ((hI h3 a0 5) + (hI h3 (a0 + 1) 5)) → (Ev w (am_Z w) mX4_addUp (d + 1) 31 [(0, .ref a0), (1, .ref a1), (2, .int 0)] [] h5 Q)))))) : EvM w mX4_addUp (d + 1) [.ref a0, .ref a1] h Q := by
  show Ev w (am_Z w) mX4_addUp (d + 1) 0 [(0, .ref a0), (1, .ref a1)] [] h Q
  refine Ev.aload_n 0 (am_dt kX4_addUp 0 rfl) rfl rfl ?_
  refine Ev.dup (am_dt kX4_addUp 1 rfl) rfl ?_
  obtain ⟨f1, k⟩ := k
  refine Ev.getI (ci := 4) (k := 4) (am_dt kX4_addUp 2 rfl) (by decide) (by decide) rfl wd_290 f1.1 ?_
  refine Ev.aload_n 1 (am_dt kX4_addUp 3 rfl) rfl rfl ?_
  obtain ⟨f2, k⟩ := k
  refine Ev.getI (ci := 3) (k := 10) (am_dt kX4_addUp 4 rfl) (by decide) (by decide) rfl wd_322 f2.1 ?_
  refine Ev.iadd (am_dt kX4_addUp 5 rfl) ?_
  refine Ev.putI' (ci := 4) (k := 4) (am_dt kX4_addUp 6 rfl) (by decide) (by decide) wd_290 rfl rfl rfl rfl f1.1 (fun h3 eh3 => ?_)
  have k := k h3 eh3
  have f1 := am_LsI eh3 f1
  have f2 := am_LsI eh3 f2
  refine Ev.aload_n 0 (am_dt kX4_addUp 7 rfl) rfl rfl ?_
  refine Ev.dup (am_dt kX4_addUp 8 rfl) rfl ?_
  refine Ev.getI (ci := 4) (k := 5) (am_dt kX4_addUp 9 rfl) (by decide) (by decide) rfl wd_291 f1.1 ?_
  refine Ev.aload_n 0 (am_dt kX4_addUp 10 rfl) rfl rfl ?_
  refine Ev.getRe (ci := 4) (k := 0) (r := a0 + 1) (am_dt kX4_addUp 11 rfl) (by decide) (by decide) rfl wd_284 f1.1 (am_L.r f1 0 rfl) (by omega) ?_
  obtain ⟨f4, k⟩ := k
  refine Ev.getI (ci := 2) (k := 5) (am_dt kX4_addUp 12 rfl) (by decide) (by decide) rfl wd_310 f4.1 ?_
  refine Ev.iadd (am_dt kX4_addUp 13 rfl) ?_
  refine Ev.putI' (ci := 4) (k := 5) (am_dt kX4_addUp 14 rfl) (by decide) (by decide) wd_291 rfl rfl rfl rfl f1.1 (fun h5 eh5 => ?_)
  have k := k h5 eh5
  have f1 := am_LsI eh5 f1
  have f2 := am_LsI eh5 f2
  have f4 := am_LsI eh5 f4
  refine Ev.iconst (v := 0) (am_dt kX4_addUp 15 rfl) (by decide) ?_
  refine Ev.istore_n (lv' := [(2, .int 0), (0, .ref a0), (1, .ref a1)]) (am_dt kX4_addUp 16 rfl) rfl (by decide) rfl ?_
  exact Ev.sub [1, 2, 0] rfl k
set_option maxRecDepth 20000 in
set_option maxHeartbeats 2000000 in
theorem bX4_addUp_31 {w : am_W} {d : Nat} {h : am_H} {Q : Option Value → am_H → Prop} {a0 : Nat} {a1 : Nat} {x2 : Int32}  (k : (am_L 4 a0 h) ∧ ((am_L 2 (a0 + 1) h) ∧ (((hI h (a0 + 1) 5) ≤ x2 → (Q none h)) ∧ (¬ (hI h (a0 + 1) 5) ≤ x2 → ((am_L 3 a1 h) ∧ (EvM w mX3_waitOf d [.ref a1, .int x2] h (fun r5 h4 => ∃ v6 : Int32, r5 = some (.int v6) ∧ ((am_L 4 a0 h4) ∧ (∀ h8 : am_H, h8 = sI h4 a0 6 ((hI h4 a0 6) + v6) → (∀ h9 : am_H, h9 = sI h8 a0 8 (if (hI h8 a0 8) < v6 then v6 else (hI h8 a0 8)) → ((am_L 3 a1 h9) ∧ (EvM w mX9_get d [.ref (a1 + 9), .int x2] h9 (fun r12 h11 => ∃ v13 : Int32, r12 = some (.int v13) ∧ ((v13 = ((-1)) → ((am_L 4 a0 h11) ∧ (∀ h15 : am_H, h15 = sI h11 a0 7 ((hI h9 a0 7) + 1) → (Ev w (am_Z w) mX4_addUp (d + 1) 31 [(0, .ref a0), (1, .ref a1), (2, .int (x2 + 1))] [] h15 Q)))) ∧ (¬ v13 = ((-1)) → ((am_L 4 a0 h11) ∧ (∀ h17 : am_H, h17 = sI h11 a0 7 ((hI h9 a0 7) + 0) → (Ev w (am_Z w) mX4_addUp (d + 1) 31 [(0, .ref a0), (1, .ref a1), (2, .int (x2 + 1))] [] h17 Q)))))))))))))))))) : Ev w (am_Z w) mX4_addUp (d + 1) 31 [(0, .ref a0), (1, .ref a1), (2, .int x2)] [] h Q := by
  refine Ev.iload_n 2 (am_dt kX4_addUp 17 rfl) rfl rfl ?_
  refine Ev.aload_n 0 (am_dt kX4_addUp 18 rfl) rfl rfl ?_
  obtain ⟨f1, k⟩ := k
  refine Ev.getRe (ci := 4) (k := 0) (r := a0 + 1) (am_dt kX4_addUp 19 rfl) (by decide) (by decide) rfl wd_284 f1.1 (am_L.r f1 0 rfl) (by omega) ?_
  obtain ⟨f2, k⟩ := k
  refine Ev.getI (ci := 2) (k := 5) (am_dt kX4_addUp 20 rfl) (by decide) (by decide) rfl wd_310 f2.1 ?_
  refine Ev.icmp_ge (tgt := 102) (am_dt kX4_addUp 21 rfl) (by decide) (fun c => ?_) (fun c => ?_)
  · have k := k.1 c
    exact Ev.vret (am_dt kX4_addUp 54 rfl) rfl k
  · have k := k.2 c
    refine Ev.aload_n 1 (am_dt kX4_addUp 22 rfl) rfl rfl ?_
    refine Ev.iload_n 2 (am_dt kX4_addUp 23 rfl) rfl rfl ?_
    obtain ⟨f3, k⟩ := k
    refine Ev.callV (ci := 3) (v := mX3_waitOf) (As := [.int x2]) (st := []) okX3_waitOf wd_275 wd_276 wd_323 (am_dt kX4_addUp 24 rfl) (by decide) rfl rfl (Nat.le_of_ble_eq_true rfl) (Nat.le_of_ble_eq_true rfl) f3.1 ?_
    refine EvM.mono k (fun r5 h4 k => ?_)
    obtain ⟨v6, rfl, k⟩ := k
    show Ev w _ _ _ 47 _ [.int v6] _ _
    refine Ev.istore_n (lv' := [(3, .int v6), (0, .ref a0), (1, .ref a1), (2, .int x2)]) (am_dt kX4_addUp 25 rfl) rfl (by decide) rfl ?_
    refine Ev.aload_n 1 (am_dt kX4_addUp 26 rfl) rfl rfl ?_
    refine Ev.dup (am_dt kX4_addUp 27 rfl) rfl ?_
    obtain ⟨f7, k⟩ := k
    refine Ev.getI (ci := 4) (k := 6) (am_dt kX4_addUp 28 rfl) (by decide) (by decide) rfl wd_292 f7.1 ?_
    refine Ev.iload_n 0 (am_dt kX4_addUp 29 rfl) rfl rfl ?_
    refine Ev.iadd (am_dt kX4_addUp 30 rfl) ?_
    refine Ev.putI' (ci := 4) (k := 6) (am_dt kX4_addUp 31 rfl) (by decide) (by decide) wd_292 rfl rfl rfl rfl f7.1 (fun h8 eh8 => ?_)
    have k := k h8 eh8
    have f7 := am_LsI eh8 f7
    refine Ev.aload_n 1 (am_dt kX4_addUp 32 rfl) rfl rfl ?_
    refine Ev.aload_n 1 (am_dt kX4_addUp 33 rfl) rfl rfl ?_
    refine Ev.getI (ci := 4) (k := 8) (am_dt kX4_addUp 34 rfl) (by decide) (by decide) rfl wd_294 f7.1 ?_
    refine Ev.iload_n 0 (am_dt kX4_addUp 35 rfl) rfl rfl ?_
    refine Ev.mmax wd_324 wd_5 wd_6 wd_7 (am_dt kX4_addUp 36 rfl) (Nat.le_of_ble_eq_true rfl) ?_
    refine Ev.putI' (ci := 4) (k := 8) (am_dt kX4_addUp 37 rfl) (by decide) (by decide) wd_294 rfl rfl rfl rfl f7.1 (fun h9 eh9 => ?_)
    have k := k h9 eh9
    have f7 := am_LsI eh9 f7
    refine Ev.aload_n 1 (am_dt kX4_addUp 38 rfl) rfl rfl ?_
    refine Ev.dup (am_dt kX4_addUp 39 rfl) rfl ?_
    refine Ev.getI (ci := 4) (k := 7) (am_dt kX4_addUp 40 rfl) (by decide) (by decide) rfl wd_293 f7.1 ?_
    refine Ev.aload_n 2 (am_dt kX4_addUp 41 rfl) rfl rfl ?_
    obtain ⟨f10, k⟩ := k
    refine Ev.getRe (ci := 3) (k := 3) (r := a1 + 9) (am_dt kX4_addUp 42 rfl) (by decide) (by decide) rfl wd_325 f10.1 (am_L.r f10 6 rfl) (by omega) ?_
    refine Ev.iload_n 3 (am_dt kX4_addUp 43 rfl) rfl rfl ?_
    refine Ev.callSN (v := mX9_get) (As := [.ref (a1 + 9), .int x2]) (st := [.int (hI h9 a0 7), .ref a0]) okX9_get wd_19 wd_326 (am_dt kX4_addUp 44 rfl) rfl rfl (Nat.le_of_ble_eq_true rfl) (Nat.le_of_ble_eq_true rfl) ?_
    refine EvM.mono k (fun r12 h11 k => ?_)
    obtain ⟨v13, rfl, k⟩ := k
    show Ev w _ _ _ 83 _ [.int v13, .int (hI h9 a0 7), .ref a0] _ _
    refine Ev.iconst (v := (-1)) (am_dt kX4_addUp 45 rfl) (by decide) ?_
    refine Ev.icmp_ne (tgt := 91) (am_dt kX4_addUp 46 rfl) (by decide) (fun c => ?_) (fun c => ?_)
    · have k := k.2 c
      refine Ev.iconst (v := 0) (am_dt kX4_addUp 49 rfl) (by decide) ?_
      refine Ev.iadd (am_dt kX4_addUp 50 rfl) ?_
      obtain ⟨f16, k⟩ := k
      refine Ev.putI' (ci := 4) (k := 7) (am_dt kX4_addUp 51 rfl) (by decide) (by decide) wd_293 rfl rfl rfl rfl f16.1 (fun h17 eh17 => ?_)
      have k := k h17 eh17
      have f16 := am_LsI eh17 f16
      refine Ev.iinc (v := x2 + 1) (lv' := [(2, .int (x2 + 1)), (3, .int v6), (0, .ref a0), (1, .ref a1)]) 3 (am_dt kX4_addUp 52 rfl) rfl rfl (by decide) rfl ?_
      refine Ev.goto (tgt := 31) (am_dt kX4_addUp 53 rfl) (by decide) ?_
      exact Ev.sub [2, 3, 0] rfl k
    · have k := k.1 c
      refine Ev.iconst (v := 1) (am_dt kX4_addUp 47 rfl) (by decide) ?_
      refine Ev.goto (tgt := 92) (am_dt kX4_addUp 48 rfl) (by decide) ?_
      refine Ev.iadd (am_dt kX4_addUp 50 rfl) ?_
      obtain ⟨f14, k⟩ := k
      refine Ev.putI' (ci := 4) (k := 7) (am_dt kX4_addUp 51 rfl) (by decide) (by decide) wd_293 rfl rfl rfl rfl f14.1 (fun h15 eh15 => ?_)
      have k := k h15 eh15
      have f14 := am_LsI eh15 f14
      refine Ev.iinc (v := x2 + 1) (lv' := [(2, .int (x2 + 1)), (3, .int v6), (0, .ref a0), (1, .ref a1)]) 3 (am_dt kX4_addUp 52 rfl) rfl rfl (by decide) rfl ?_
      refine Ev.goto (tgt := 31) (am_dt kX4_addUp 53 rfl) (by decide) ?_
      exact Ev.sub [2, 3, 0] rfl k
