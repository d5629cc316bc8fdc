set_option maxRecDepth 20000 in
set_option maxHeartbeats 2000000 in
theorem bX9_mark_0 {w : am_W} {d : Nat} {h : am_H} {Q : Option Value → am_H → Prop} {a0 : Nat} {x1 : Int32} {x2 : Int32}  (k : (x1 < 0 → (Q (some (.int 0)) h)) ∧ (¬ x1 < 0 → ((am_L 9 a0 h) ∧ ((x1 < (nI (hN h (a0 + 22))) → ((x2 = 0 → ((vp_in x1 (hN h (a0 + 22))) ∧ ((hR h (a0 + 22) (Int32.toNatClampNeg x1) ≠ 0) ∧ ((am_L 7 (hR h (a0 + 22) (Int32.toNatClampNeg x1)) h) ∧ (EvM w mX7_take d [.ref (hR h (a0 + 22) (Int32.toNatClampNeg x1)), .ref (a0 + 20)] h (fun r6 h5 => r6 = none ∧ ((am_L 9 a0 h5) ∧ ((vp_in x1 (hN h5 (a0 + 22))) ∧ ((hR h5 (a0 + 22) (Int32.toNatClampNeg x1) ≠ 0) ∧ ((am_L 7 (hR h5 (a0 + 22) (Int32.toNatClampNeg x1)) h5) ∧ (∀ h11 : am_H, h11 = sI h5 (hR h5 (a0 + 22) (Int32.toNatClampNeg x1)) 4 1 → (Q (some (.int 1)) h11)))))))))))) ∧ (¬ x2 = 0 → ((vp_in x1 (hN h (a0 + 22))) ∧ ((hR h (a0 + 22) (Int32.toNatClampNeg x1) ≠ 0) ∧ ((am_L 7 (hR h (a0 + 22) (Int32.toNatClampNeg x1)) h) ∧ (((hI h (hR h (a0 + 22) (Int32.toNatClampNeg x1)) 4) = 0 → (Q (some (.int 0)) h)) ∧ (¬ (hI h (hR h (a0 + 22) (Int32.toNatClampNeg x1)) 4) = 0 → ((vp_in x1 (hN h (a0 + 22))) ∧ ((hR h (a0 + 22) (Int32.toNatClampNeg x1) ≠ 0) ∧ (EvM w mX7_take d [.ref (a0 + 20), .ref (hR h (a0 + 22) (Int32.toNatClampNeg x1))] h (fun r18 h17 => r18 = none ∧ ((am_L 9 a0 h17) ∧ (EvM w mX9_forget d [.ref a0] h17 (fun r21 h20 => r21 = none ∧ (Q (some (.int 1)) h20)))))))))))))))) ∧ (¬ x1 < (nI (hN h (a0 + 22))) → (Q (some (.int 0)) h)))))) : EvM w mX9_mark (d + 1) [.ref a0, .int x1, .int x2] h Q := by
  show Ev w (am_Z w) mX9_mark (d + 1) 0 [(0, .ref a0), (1, .int x1), (2, .int x2)] [] h Q
  refine Ev.iload_n 1 (am_dt kX9_mark 0 rfl) rfl rfl ?_
  refine Ev.if_lt (tgt := 13) (am_dt kX9_mark 1 rfl) (by decide) (fun c => ?_) (fun c => ?_)
  · have k := k.1 c
    refine Ev.iconst (v := 0) (am_dt kX9_mark 7 rfl) (by decide) ?_
    exact Ev.iret .boolean (am_dt kX9_mark 8 rfl) rfl rfl k
  · have k := k.2 c
    refine Ev.iload_n 1 (am_dt kX9_mark 2 rfl) rfl rfl ?_
    refine Ev.aload_n 0 (am_dt kX9_mark 3 rfl) rfl rfl ?_
    obtain ⟨f1, k⟩ := k
    refine Ev.getRe (ci := 9) (k := 3) (r := a0 + 22) (am_dt kX9_mark 4 rfl) (by decide) (by decide) rfl wd_375 f1.1 (am_L.r f1 3 rfl) (by omega) ?_
    refine Ev.alen 15 (am_dt kX9_mark 5 rfl) (by decide) (by decide) (am_L.s f1 3 rfl) ?_
    refine Ev.icmp_lt (tgt := 15) (am_dt kX9_mark 6 rfl) (by decide) (fun c => ?_) (fun c => ?_)
    · have k := k.1 c
      refine Ev.iload_n 2 (am_dt kX9_mark 9 rfl) rfl rfl ?_
      refine Ev.if_ne (tgt := 44) (am_dt kX9_mark 10 rfl) (by decide) (fun c => ?_) (fun c => ?_)
      · have k := k.2 c
        refine Ev.aload_n 0 (am_dt kX9_mark 26 rfl) rfl rfl ?_
        refine Ev.getRe (ci := 9) (k := 3) (r := a0 + 22) (am_dt kX9_mark 27 rfl) (by decide) (by decide) rfl wd_375 f1.1 (am_L.r f1 3 rfl) (by omega) ?_
        refine Ev.iload_n 1 (am_dt kX9_mark 28 rfl) rfl rfl ?_
        obtain ⟨f12, k⟩ := k
        obtain ⟨f13, k⟩ := k
        refine Ev.aald (am_dt kX9_mark 29 rfl) (am_L.s f1 3 rfl) f12 f13 ?_
        obtain ⟨f14, k⟩ := k
        refine Ev.getI (ci := 7) (k := 4) (am_dt kX9_mark 30 rfl) (by decide) (by decide) rfl wd_524 f14.1 ?_
        refine Ev.if_ne (tgt := 58) (am_dt kX9_mark 31 rfl) (by decide) (fun c => ?_) (fun c => ?_)
        · have k := k.2 c
          refine Ev.aload_n 0 (am_dt kX9_mark 34 rfl) rfl rfl ?_
          refine Ev.getRe (ci := 9) (k := 2) (r := a0 + 20) (am_dt kX9_mark 35 rfl) (by decide) (by decide) rfl wd_374 f1.1 (am_L.r f1 2 rfl) (by omega) ?_
          refine Ev.aload_n 0 (am_dt kX9_mark 36 rfl) rfl rfl ?_
          refine Ev.getRe (ci := 9) (k := 3) (r := a0 + 22) (am_dt kX9_mark 37 rfl) (by decide) (by decide) rfl wd_375 f1.1 (am_L.r f1 3 rfl) (by omega) ?_
          refine Ev.iload_n 1 (am_dt kX9_mark 38 rfl) rfl rfl ?_
          obtain ⟨f15, k⟩ := k
          obtain ⟨f16, k⟩ := k
          refine Ev.aald (am_dt kX9_mark 39 rfl) (am_L.s f1 3 rfl) f15 f16 ?_
          refine Ev.callV (ci := 7) (v := mX7_take) (As := [.ref (hR h (a0 + 22) (Int32.toNatClampNeg x1))]) (st := []) okX7_take wd_521 wd_522 wd_523 (am_dt kX9_mark 40 rfl) (by decide) rfl rfl (Nat.le_of_ble_eq_true rfl) (Nat.le_of_ble_eq_true rfl) (am_L.s f1 2 rfl) ?_
          refine EvM.mono k (fun r18 h17 k => ?_)
          obtain ⟨rfl, k⟩ := k
          show Ev w _ _ _ 71 _ [] _ _
          refine Ev.aload_n 0 (am_dt kX9_mark 41 rfl) rfl rfl ?_
          obtain ⟨f19, k⟩ := k
          refine Ev.callV (ci := 9) (v := mX9_forget) (As := []) (st := []) okX9_forget wd_421 wd_422 wd_423 (am_dt kX9_mark 42 rfl) (by decide) rfl rfl (Nat.le_of_ble_eq_true rfl) (Nat.le_of_ble_eq_true rfl) f19.1 ?_
          refine EvM.mono k (fun r21 h20 k => ?_)
          obtain ⟨rfl, k⟩ := k
          show Ev w _ _ _ 75 _ [] _ _
          refine Ev.iconst (v := 1) (am_dt kX9_mark 43 rfl) (by decide) ?_
          exact Ev.iret .boolean (am_dt kX9_mark 44 rfl) rfl rfl k
        · have k := k.1 c
          refine Ev.iconst (v := 0) (am_dt kX9_mark 32 rfl) (by decide) ?_
          exact Ev.iret .boolean (am_dt kX9_mark 33 rfl) rfl rfl k
      · have k := k.1 c
        refine Ev.aload_n 0 (am_dt kX9_mark 11 rfl) rfl rfl ?_
        refine Ev.getRe (ci := 9) (k := 3) (r := a0 + 22) (am_dt kX9_mark 12 rfl) (by decide) (by decide) rfl wd_375 f1.1 (am_L.r f1 3 rfl) (by omega) ?_
        refine Ev.iload_n 1 (am_dt kX9_mark 13 rfl) rfl rfl ?_
        obtain ⟨f2, k⟩ := k
        obtain ⟨f3, k⟩ := k
        refine Ev.aald (am_dt kX9_mark 14 rfl) (am_L.s f1 3 rfl) f2 f3 ?_
        refine Ev.aload_n 0 (am_dt kX9_mark 15 rfl) rfl rfl ?_
        refine Ev.getRe (ci := 9) (k := 2) (r := a0 + 20) (am_dt kX9_mark 16 rfl) (by decide) (by decide) rfl wd_374 f1.1 (am_L.r f1 2 rfl) (by omega) ?_
        obtain ⟨f4, k⟩ := k
        refine Ev.callV (ci := 7) (v := mX7_take) (As := [.ref (a0 + 20)]) (st := []) okX7_take wd_521 wd_522 wd_523 (am_dt kX9_mark 17 rfl) (by decide) rfl rfl (Nat.le_of_ble_eq_true rfl) (Nat.le_of_ble_eq_true rfl) f4.1 ?_
        refine EvM.mono k (fun r6 h5 k => ?_)
        obtain ⟨rfl, k⟩ := k
        show Ev w _ _ _ 32 _ [] _ _
        refine Ev.aload_n 0 (am_dt kX9_mark 18 rfl) rfl rfl ?_
        obtain ⟨f7, k⟩ := k
        refine Ev.getRe (ci := 9) (k := 3) (r := a0 + 22) (am_dt kX9_mark 19 rfl) (by decide) (by decide) rfl wd_375 f7.1 (am_L.r f7 3 rfl) (by omega) ?_
        refine Ev.iload_n 1 (am_dt kX9_mark 20 rfl) rfl rfl ?_
        obtain ⟨f8, k⟩ := k
        obtain ⟨f9, k⟩ := k
        refine Ev.aald (am_dt kX9_mark 21 rfl) (am_L.s f7 3 rfl) f8 f9 ?_
        refine Ev.iconst (v := 1) (am_dt kX9_mark 22 rfl) (by decide) ?_
        obtain ⟨f10, k⟩ := k
        refine Ev.putI' (ci := 7) (k := 4) (am_dt kX9_mark 23 rfl) (by decide) (by decide) wd_524 rfl rfl rfl rfl f10.1 (fun h11 eh11 => ?_)
        have k := k h11 eh11
        have f7 := am_LsI eh11 f7
        have f10 := am_LsI eh11 f10
        refine Ev.iconst (v := 1) (am_dt kX9_mark 24 rfl) (by decide) ?_
        exact Ev.iret .boolean (am_dt kX9_mark 25 rfl) rfl rfl k
    · have k := k.2 c
      refine Ev.iconst (v := 0) (am_dt kX9_mark 7 rfl) (by decide) ?_
      exact Ev.iret .boolean (am_dt kX9_mark 8 rfl) rfl rfl k
set_option maxRecDepth 20000 in
set_option maxHeartbeats 2000000 in
theorem bX9_count_0 {w : am_W} {d : Nat} {h : am_H} {Q : Option Value → am_H → Prop} {a0 : Nat} {x1 : Int32}  (k : (am_L 9 a0 h) ∧ ((am_L 7 (a0 + 20) h) ∧ ((hR h (a0 + 20) 1 ≠ 0) ∧ ((x1 = 0 → ((am_L 6 (hR h (a0 + 20) 1) h) ∧ ((am_L 2 ((hR h (a0 + 20) 1) + 1) h) ∧ (Q (some (.int (hI h ((hR h (a0 + 20) 1) + 1) 5))) h)))) ∧ (¬ x1 = 0 → ((x1 = 1 → ((am_L 6 (hR h (a0 + 20) 1) h) ∧ (Q (some (.int (hI h (hR h (a0 + 20) 1) 13))) h))) ∧ (¬ x1 = 1 → ((x1 = 2 → (Q (some (.int (hI h (a0 + 20) 2))) h)) ∧ (¬ x1 = 2 → ((x1 = 3 → ((am_L 6 (hR h (a0 + 20) 1) h) ∧ (Q (some (.int (hI h (hR h (a0 + 20) 1) 6))) h))) ∧ (¬ x1 = 3 → ((x1 = 4 → ((am_L 6 (hR h (a0 + 20) 1) h) ∧ (Q (some (.int (hI h (hR h (a0 + 20) 1) 7))) h))) ∧ (¬ x1 = 4 → ((x1 = 5 → ((am_L 6 (hR h (a0 + 20) 1) h) ∧ (Q (some (.int (hI h (hR h (a0 + 20) 1) 8))) h))) ∧ (¬ x1 = 5 → ((x1 = 6 → ((am_L 6 (hR h (a0 + 20) 1) h) ∧ (Q (some (.int (hI h (hR h (a0 + 20) 1) 12))) h))) ∧ (¬ x1 = 6 → ((x1 = 7 → (Q (some (.int (hI h (a0 + 20) 3))) h)) ∧ (¬ x1 = 7 → ((x1 = 8 → ((am_L 8 (a0 + 13) h) ∧ (Q (some (.int (hI h (a0 + 13) 3))) h))) ∧ (¬ x1 = 8 → (Q (some (.int ((-1)))) h)))))))))))))))))))))) : EvM w mX9_count d [.ref a0, .int x1] h Q := by
  show Ev w (am_Z w) mX9_count d 0 [(0, .ref a0), (1, .int x1)] [] h Q
  refine Ev.aload_n 0 (am_dt kX9_count 0 rfl) rfl rfl ?_
  obtain ⟨f1, k⟩ := k
  refine Ev.getRe (ci := 9) (k := 2) (r := a0 + 20) (am_dt kX9_count 1 rfl) (by decide) (by decide) rfl wd_374 f1.1 (am_L.r f1 2 rfl) (by omega) ?_
  obtain ⟨f2, k⟩ := k
  obtain ⟨f3, k⟩ := k
  refine Ev.getR (ci := 7) (k := 1) (am_dt kX9_count 2 rfl) (by decide) (by decide) rfl wd_424 f2.1 f3 ?_
  refine Ev.astore_n (lv' := [(2, .ref (hR h (a0 + 20) 1)), (0, .ref a0), (1, .int x1)]) (am_dt kX9_count 3 rfl) rfl (by decide) rfl ?_
  refine Ev.iload_n 2 (am_dt kX9_count 4 rfl) rfl rfl ?_
  by_cases c : x1 = 0
  · refine Ev.tableIn (off := 51) (tgt := 60) (am_dt kX9_count 5 rfl) (by rw [c]; decide) (by rw [c]; decide) (by rw [c]; rfl) (by decide) ?_
    have k := k.1 c
    refine Ev.aload_n 0 (am_dt kX9_count 6 rfl) rfl rfl ?_
    obtain ⟨f4, k⟩ := k
    refine Ev.getRe (ci := 6) (k := 0) (r := (hR h (a0 + 20) 1) + 1) (am_dt kX9_count 7 rfl) (by decide) (by decide) rfl wd_428 f4.1 (am_L.r f4 0 rfl) (by omega) ?_
    obtain ⟨f5, k⟩ := k
    refine Ev.getI (ci := 2) (k := 5) (am_dt kX9_count 8 rfl) (by decide) (by decide) rfl wd_470 f5.1 ?_
    exact Ev.iret .int (am_dt kX9_count 9 rfl) rfl rfl k
  have k := k.2 c
  have c0 := am_ne (n := 0) (by decide) c
  clear c
  by_cases c : x1 = 1
  · refine Ev.tableIn (off := 59) (tgt := 68) (am_dt kX9_count 5 rfl) (by rw [c]; decide) (by rw [c]; decide) (by rw [c]; rfl) (by decide) ?_
    have k := k.1 c
    refine Ev.aload_n 0 (am_dt kX9_count 10 rfl) rfl rfl ?_
    obtain ⟨f6, k⟩ := k
    refine Ev.getI (ci := 6) (k := 13) (am_dt kX9_count 11 rfl) (by decide) (by decide) rfl wd_436 f6.1 ?_
    exact Ev.iret .int (am_dt kX9_count 12 rfl) rfl rfl k
  have k := k.2 c
  have c1 := am_ne (n := 1) (by decide) c
  clear c
  by_cases c : x1 = 2
  · refine Ev.tableIn (off := 64) (tgt := 73) (am_dt kX9_count 5 rfl) (by rw [c]; decide) (by rw [c]; decide) (by rw [c]; rfl) (by decide) ?_
    have k := k.1 c
    refine Ev.aload_n 1 (am_dt kX9_count 13 rfl) rfl rfl ?_
    refine Ev.getRe (ci := 9) (k := 2) (r := a0 + 20) (am_dt kX9_count 14 rfl) (by decide) (by decide) rfl wd_374 f1.1 (am_L.r f1 2 rfl) (by omega) ?_
    refine Ev.getI (ci := 7) (k := 2) (am_dt kX9_count 15 rfl) (by decide) (by decide) rfl wd_437 f2.1 ?_
    exact Ev.iret .int (am_dt kX9_count 16 rfl) rfl rfl k
  have k := k.2 c
  have c2 := am_ne (n := 2) (by decide) c
  clear c
  by_cases c : x1 = 3
  · refine Ev.tableIn (off := 72) (tgt := 81) (am_dt kX9_count 5 rfl) (by rw [c]; decide) (by rw [c]; decide) (by rw [c]; rfl) (by decide) ?_
    have k := k.1 c
    refine Ev.aload_n 0 (am_dt kX9_count 17 rfl) rfl rfl ?_
    obtain ⟨f7, k⟩ := k
    refine Ev.getI (ci := 6) (k := 6) (am_dt kX9_count 18 rfl) (by decide) (by decide) rfl wd_525 f7.1 ?_
    exact Ev.iret .int (am_dt kX9_count 19 rfl) rfl rfl k
  have k := k.2 c
  have c3 := am_ne (n := 3) (by decide) c
  clear c
  by_cases c : x1 = 4
  · refine Ev.tableIn (off := 77) (tgt := 86) (am_dt kX9_count 5 rfl) (by rw [c]; decide) (by rw [c]; decide) (by rw [c]; rfl) (by decide) ?_
    have k := k.1 c
    refine Ev.aload_n 0 (am_dt kX9_count 20 rfl) rfl rfl ?_
    obtain ⟨f8, k⟩ := k
    refine Ev.getI (ci := 6) (k := 7) (am_dt kX9_count 21 rfl) (by decide) (by decide) rfl wd_526 f8.1 ?_
    exact Ev.iret .int (am_dt kX9_count 22 rfl) rfl rfl k
  have k := k.2 c
  have c4 := am_ne (n := 4) (by decide) c
  clear c
  by_cases c : x1 = 5
  · refine Ev.tableIn (off := 82) (tgt := 91) (am_dt kX9_count 5 rfl) (by rw [c]; decide) (by rw [c]; decide) (by rw [c]; rfl) (by decide) ?_
    have k := k.1 c
    refine Ev.aload_n 0 (am_dt kX9_count 23 rfl) rfl rfl ?_
    obtain ⟨f9, k⟩ := k
    refine Ev.getI (ci := 6) (k := 8) (am_dt kX9_count 24 rfl) (by decide) (by decide) rfl wd_527 f9.1 ?_
    exact Ev.iret .int (am_dt kX9_count 25 rfl) rfl rfl k
  have k := k.2 c
  have c5 := am_ne (n := 5) (by decide) c
  clear c
  by_cases c : x1 = 6
  · refine Ev.tableIn (off := 87) (tgt := 96) (am_dt kX9_count 5 rfl) (by rw [c]; decide) (by rw [c]; decide) (by rw [c]; rfl) (by decide) ?_
    have k := k.1 c
    refine Ev.aload_n 0 (am_dt kX9_count 26 rfl) rfl rfl ?_
    obtain ⟨f10, k⟩ := k
    refine Ev.getI (ci := 6) (k := 12) (am_dt kX9_count 27 rfl) (by decide) (by decide) rfl wd_482 f10.1 ?_
    exact Ev.iret .int (am_dt kX9_count 28 rfl) rfl rfl k
  have k := k.2 c
  have c6 := am_ne (n := 6) (by decide) c
  clear c
  by_cases c : x1 = 7
  · refine Ev.tableIn (off := 92) (tgt := 101) (am_dt kX9_count 5 rfl) (by rw [c]; decide) (by rw [c]; decide) (by rw [c]; rfl) (by decide) ?_
    have k := k.1 c
    refine Ev.aload_n 1 (am_dt kX9_count 29 rfl) rfl rfl ?_
    refine Ev.getRe (ci := 9) (k := 2) (r := a0 + 20) (am_dt kX9_count 30 rfl) (by decide) (by decide) rfl wd_374 f1.1 (am_L.r f1 2 rfl) (by omega) ?_
    refine Ev.getI (ci := 7) (k := 3) (am_dt kX9_count 31 rfl) (by decide) (by decide) rfl wd_491 f2.1 ?_
    exact Ev.iret .int (am_dt kX9_count 32 rfl) rfl rfl k
  have k := k.2 c
  have c7 := am_ne (n := 7) (by decide) c
  clear c
  by_cases c : x1 = 8
  · refine Ev.tableIn (off := 100) (tgt := 109) (am_dt kX9_count 5 rfl) (by rw [c]; decide) (by rw [c]; decide) (by rw [c]; rfl) (by decide) ?_
    have k := k.1 c
    refine Ev.aload_n 1 (am_dt kX9_count 33 rfl) rfl rfl ?_
    refine Ev.getRe (ci := 9) (k := 0) (r := a0 + 13) (am_dt kX9_count 34 rfl) (by decide) (by decide) rfl wd_368 f1.1 (am_L.r f1 0 rfl) (by omega) ?_
    obtain ⟨f11, k⟩ := k
    refine Ev.getI (ci := 8) (k := 3) (am_dt kX9_count 35 rfl) (by decide) (by decide) rfl wd_410 f11.1 ?_
    exact Ev.iret .int (am_dt kX9_count 36 rfl) rfl rfl k
  have k := k.2 c
  have c8 := am_ne (n := 8) (by decide) c
  clear c
  refine Ev.tableOut (tgt := 117) (am_dt kX9_count 5 rfl) (by omega) (by decide) ?_
  refine Ev.iconst (v := (-1)) (am_dt kX9_count 37 rfl) (by decide) ?_
  exact Ev.iret .int (am_dt kX9_count 38 rfl) rfl rfl k
set_option maxRecDepth 20000 in
set_option maxHeartbeats 2000000 in
theorem bX9_isPerson_0 {w : am_W} {d : Nat} {h : am_H} {Q : Option Value → am_H → Prop} {a0 : Nat} {x1 : Int32}  (k : (x1 < 0 → (Q (some (.int 0)) h)) ∧ (¬ x1 < 0 → ((am_L 9 a0 h) ∧ ((am_L 7 (a0 + 20) h) ∧ ((hR h (a0 + 20) 1 ≠ 0) ∧ ((am_L 6 (hR h (a0 + 20) 1) h) ∧ ((am_L 2 ((hR h (a0 + 20) 1) + 1) h) ∧ (((hI h ((hR h (a0 + 20) 1) + 1) 5) ≤ x1 → (Q (some (.int 0)) h)) ∧ (¬ (hI h ((hR h (a0 + 20) 1) + 1) 5) ≤ x1 → (Q (some (.int 1)) h)))))))))) : EvM w mX9_isPerson d [.ref a0, .int x1] h Q := by
  show Ev w (am_Z w) mX9_isPerson d 0 [(0, .ref a0), (1, .int x1)] [] h Q
  refine Ev.iload_n 1 (am_dt kX9_isPerson 0 rfl) rfl rfl ?_
  refine Ev.if_lt (tgt := 25) (am_dt kX9_isPerson 1 rfl) (by decide) (fun c => ?_) (fun c => ?_)
  · have k := k.1 c
    refine Ev.iconst (v := 0) (am_dt kX9_isPerson 11 rfl) (by decide) ?_
    exact Ev.iret .boolean (am_dt kX9_isPerson 12 rfl) rfl rfl k
  · have k := k.2 c
    refine Ev.iload_n 1 (am_dt kX9_isPerson 2 rfl) rfl rfl ?_
    refine Ev.aload_n 0 (am_dt kX9_isPerson 3 rfl) rfl rfl ?_
    obtain ⟨f1, k⟩ := k
    refine Ev.getRe (ci := 9) (k := 2) (r := a0 + 20) (am_dt kX9_isPerson 4 rfl) (by decide) (by decide) rfl wd_374 f1.1 (am_L.r f1 2 rfl) (by omega) ?_
    obtain ⟨f2, k⟩ := k
    obtain ⟨f3, k⟩ := k
    refine Ev.getR (ci := 7) (k := 1) (am_dt kX9_isPerson 5 rfl) (by decide) (by decide) rfl wd_424 f2.1 f3 ?_
    obtain ⟨f4, k⟩ := k
    refine Ev.getRe (ci := 6) (k := 0) (r := (hR h (a0 + 20) 1) + 1) (am_dt kX9_isPerson 6 rfl) (by decide) (by decide) rfl wd_428 f4.1 (am_L.r f4 0 rfl) (by omega) ?_
    obtain ⟨f5, k⟩ := k
    refine Ev.getI (ci := 2) (k := 5) (am_dt kX9_isPerson 7 rfl) (by decide) (by decide) rfl wd_470 f5.1 ?_
    refine Ev.icmp_ge (tgt := 25) (am_dt kX9_isPerson 8 rfl) (by decide) (fun c => ?_) (fun c => ?_)
    · have k := k.1 c
      refine Ev.iconst (v := 0) (am_dt kX9_isPerson 11 rfl) (by decide) ?_
      exact Ev.iret .boolean (am_dt kX9_isPerson 12 rfl) rfl rfl k
    · have k := k.2 c
      refine Ev.iconst (v := 1) (am_dt kX9_isPerson 9 rfl) (by decide) ?_
      refine Ev.goto (tgt := 26) (am_dt kX9_isPerson 10 rfl) (by decide) ?_
      exact Ev.iret .boolean (am_dt kX9_isPerson 12 rfl) rfl rfl k
set_option maxRecDepth 20000 in
set_option maxHeartbeats 2000000 in
theorem bX9_forget_0 {w : am_W} {d : Nat} {h : am_H} {Q : Option Value → am_H → Prop} {a0 : Nat}  (k : (am_L 9 a0 h) ∧ (∀ h2 : am_H, h2 = sI h a0 8 0 → ((am_L 1 (a0 + 57) h2) ∧ (∀ h4 : am_H, h4 = sI h2 (a0 + 57) 6 0 → ((am_L 4 (a0 + 62) h4) ∧ (∀ h6 : am_H, h6 = sI h4 (a0 + 62) 1 0 → (Q none h6))))))) : EvM w mX9_forget d [.ref a0] h Q := by
  show Ev w (am_Z w) mX9_forget d 0 [(0, .ref a0)] [] h Q
  refine Ev.aload_n 0 (am_dt kX9_forget 0 rfl) rfl rfl ?_
  refine Ev.iconst (v := 0) (am_dt kX9_forget 1 rfl) (by decide) ?_
  obtain ⟨f1, k⟩ := k
  refine Ev.putI' (ci := 9) (k := 8) (am_dt kX9_forget 2 rfl) (by decide) (by decide) wd_528 rfl rfl rfl rfl f1.1 (fun h2 eh2 => ?_)
  have k := k h2 eh2
  have f1 := am_LsI eh2 f1
  refine Ev.aload_n 0 (am_dt kX9_forget 3 rfl) rfl rfl ?_
  refine Ev.getRe (ci := 9) (k := 6) (r := a0 + 57) (am_dt kX9_forget 4 rfl) (by decide) (by decide) rfl wd_394 f1.1 (am_L.r f1 6 rfl) (by omega) ?_
  refine Ev.iconst (v := 0) (am_dt kX9_forget 5 rfl) (by decide) ?_
  obtain ⟨f3, k⟩ := k
  refine Ev.putI' (ci := 1) (k := 6) (am_dt kX9_forget 6 rfl) (by decide) (by decide) wd_529 rfl rfl rfl rfl f3.1 (fun h4 eh4 => ?_)
  have k := k h4 eh4
  have f1 := am_LsI eh4 f1
  have f3 := am_LsI eh4 f3
  refine Ev.aload_n 0 (am_dt kX9_forget 7 rfl) rfl rfl ?_
  refine Ev.getRe (ci := 9) (k := 7) (r := a0 + 62) (am_dt kX9_forget 8 rfl) (by decide) (by decide) rfl wd_397 f1.1 (am_L.r f1 7 rfl) (by omega) ?_
  refine Ev.iconst (v := 0) (am_dt kX9_forget 9 rfl) (by decide) ?_
  obtain ⟨f5, k⟩ := k
  refine Ev.putI' (ci := 4) (k := 1) (am_dt kX9_forget 10 rfl) (by decide) (by decide) wd_530 rfl rfl rfl rfl f5.1 (fun h6 eh6 => ?_)
  have k := k h6 eh6
  have f1 := am_LsI eh6 f1
  have f3 := am_LsI eh6 f3
  have f5 := am_LsI eh6 f5
  exact Ev.vret (am_dt kX9_forget 11 rfl) rfl k
set_option maxRecDepth 20000 in
set_option maxHeartbeats 2000000 in
theorem bX9_knowDay_0 {w : am_W} {d : Nat} {h : am_H} {Q : Option Value → am_H → Prop} {a0 : Nat}  (k : (am_L 9 a0 h) ∧ (((hI h a0 8) = 0 → ((am_L 7 (a0 + 20) h) ∧ ((hR h (a0 + 20) 1 ≠ 0) ∧ ((am_L 6 (hR h (a0 + 20) 1) h) ∧ ((am_L 2 ((hR h (a0 + 20) 1) + 1) h) ∧ (EvM w mX3_begin d [.ref (a0 + 31), .ref (hR h (a0 + 20) 1), .int (hI h (a0 + 20) 2), .ref ((hR h (a0 + 20) 1) + 1), .ref (((hR h (a0 + 20) 1) + 1) + 2)] h (fun r7 h6 => r7 = none ∧ ((am_L 9 a0 h6) ∧ (EvM w mX3_run d [.ref (a0 + 31), .int 1440] h6 (fun r10 h9 => r10 = none ∧ ((am_L 9 a0 h9) ∧ (∀ h12 : am_H, h12 = sI h9 a0 8 1 → (Q none h12))))))))))))) ∧ (¬ (hI h a0 8) = 0 → (Q none h)))) : EvM w mX9_knowDay (d + 1) [.ref a0] h Q := by
  show Ev w (am_Z w) mX9_knowDay (d + 1) 0 [(0, .ref a0)] [] h Q
  refine Ev.aload_n 0 (am_dt kX9_knowDay 0 rfl) rfl rfl ?_
  obtain ⟨f1, k⟩ := k
  refine Ev.getI (ci := 9) (k := 8) (am_dt kX9_knowDay 1 rfl) (by decide) (by decide) rfl wd_528 f1.1 ?_
  refine Ev.if_ne (tgt := 56) (am_dt kX9_knowDay 2 rfl) (by decide) (fun c => ?_) (fun c => ?_)
  · have k := k.2 c
    exact Ev.vret (am_dt kX9_knowDay 26 rfl) rfl k
  · have k := k.1 c
    refine Ev.aload_n 0 (am_dt kX9_knowDay 3 rfl) rfl rfl ?_
    refine Ev.getRe (ci := 9) (k := 2) (r := a0 + 20) (am_dt kX9_knowDay 4 rfl) (by decide) (by decide) rfl wd_374 f1.1 (am_L.r f1 2 rfl) (by omega) ?_
    obtain ⟨f2, k⟩ := k
    obtain ⟨f3, k⟩ := k
    refine Ev.getR (ci := 7) (k := 1) (am_dt kX9_knowDay 5 rfl) (by decide) (by decide) rfl wd_424 f2.1 f3 ?_
    refine Ev.astore_n (lv' := [(1, .ref (hR h (a0 + 20) 1)), (0, .ref a0)]) (am_dt kX9_knowDay 6 rfl) rfl (by decide) rfl ?_
    refine Ev.aload_n 1 (am_dt kX9_knowDay 7 rfl) rfl rfl ?_
    refine Ev.getRe (ci := 9) (k := 4) (r := a0 + 31) (am_dt kX9_knowDay 8 rfl) (by decide) (by decide) rfl wd_390 f1.1 (am_L.r f1 4 rfl) (by omega) ?_
    refine Ev.aload_n 0 (am_dt kX9_knowDay 9 rfl) rfl rfl ?_
    refine Ev.aload_n 1 (am_dt kX9_knowDay 10 rfl) rfl rfl ?_
    refine Ev.getRe (ci := 9) (k := 2) (r := a0 + 20) (am_dt kX9_knowDay 11 rfl) (by decide) (by decide) rfl wd_374 f1.1 (am_L.r f1 2 rfl) (by omega) ?_
    refine Ev.getI (ci := 7) (k := 2) (am_dt kX9_knowDay 12 rfl) (by decide) (by decide) rfl wd_437 f2.1 ?_
    refine Ev.aload_n 0 (am_dt kX9_knowDay 13 rfl) rfl rfl ?_
    obtain ⟨f4, k⟩ := k
    refine Ev.getRe (ci := 6) (k := 0) (r := (hR h (a0 + 20) 1) + 1) (am_dt kX9_knowDay 14 rfl) (by decide) (by decide) rfl wd_428 f4.1 (am_L.r f4 0 rfl) (by omega) ?_
    refine Ev.aload_n 0 (am_dt kX9_knowDay 15 rfl) rfl rfl ?_
    refine Ev.getRe (ci := 6) (k := 0) (r := (hR h (a0 + 20) 1) + 1) (am_dt kX9_knowDay 16 rfl) (by decide) (by decide) rfl wd_428 f4.1 (am_L.r f4 0 rfl) (by omega) ?_
    obtain ⟨f5, k⟩ := k
    refine Ev.getRe (ci := 2) (k := 1) (r := ((hR h (a0 + 20) 1) + 1) + 2) (am_dt kX9_knowDay 17 rfl) (by decide) (by decide) rfl wd_429 f5.1 (am_L.r f5 1 rfl) (by omega) ?_
    refine Ev.callV (ci := 3) (v := mX3_begin) (As := [.ref (hR h (a0 + 20) 1), .int (hI h (a0 + 20) 2), .ref ((hR h (a0 + 20) 1) + 1), .ref (((hR h (a0 + 20) 1) + 1) + 2)]) (st := []) okX3_begin wd_301 wd_302 wd_485 (am_dt kX9_knowDay 18 rfl) (by decide) rfl rfl (Nat.le_of_ble_eq_true rfl) (Nat.le_of_ble_eq_true rfl) (am_L.s f1 4 rfl) ?_
    refine EvM.mono k (fun r7 h6 k => ?_)
    obtain ⟨rfl, k⟩ := k
    show Ev w _ _ _ 41 _ [] _ _
    refine Ev.aload_n 1 (am_dt kX9_knowDay 19 rfl) rfl rfl ?_
    obtain ⟨f8, k⟩ := k
    refine Ev.getRe (ci := 9) (k := 4) (r := a0 + 31) (am_dt kX9_knowDay 20 rfl) (by decide) (by decide) rfl wd_390 f8.1 (am_L.r f8 4 rfl) (by omega) ?_
    refine Ev.sipush (v := 1440) (am_dt kX9_knowDay 21 rfl) (by decide) ?_
    refine Ev.callV (ci := 3) (v := mX3_run) (As := [.int 1440]) (st := []) okX3_run wd_304 wd_305 wd_464 (am_dt kX9_knowDay 22 rfl) (by decide) rfl rfl (Nat.le_of_ble_eq_true rfl) (Nat.le_of_ble_eq_true rfl) (am_L.s f8 4 rfl) ?_
    refine EvM.mono k (fun r10 h9 k => ?_)
    obtain ⟨rfl, k⟩ := k
    show Ev w _ _ _ 51 _ [] _ _
    refine Ev.aload_n 1 (am_dt kX9_knowDay 23 rfl) rfl rfl ?_
    refine Ev.iconst (v := 1) (am_dt kX9_knowDay 24 rfl) (by decide) ?_
    obtain ⟨f11, k⟩ := k
    refine Ev.putI' (ci := 9) (k := 8) (am_dt kX9_knowDay 25 rfl) (by decide) (by decide) wd_528 rfl rfl rfl rfl f11.1 (fun h12 eh12 => ?_)
    have k := k h12 eh12
    have f11 := am_LsI eh12 f11
    exact Ev.vret (am_dt kX9_knowDay 26 rfl) rfl k
set_option maxRecDepth 20000 in
set_option maxHeartbeats 2000000 in
theorem bX9_beginTrial_0 {w : am_W} {d : Nat} {h : am_H} {Q : Option Value → am_H → Prop} {a0 : Nat} {x1 : Int32}  (k : (am_L 9 a0 h) ∧ ((am_L 7 (a0 + 20) h) ∧ ((hR h (a0 + 20) 1 ≠ 0) ∧ ((am_L 6 (hR h (a0 + 20) 1) h) ∧ ((am_L 2 ((hR h (a0 + 20) 1) + 1) h) ∧ (EvM w mX3_begin d [.ref (a0 + 44), .ref (hR h (a0 + 20) 1), .int x1, .ref ((hR h (a0 + 20) 1) + 1), .ref (((hR h (a0 + 20) 1) + 1) + 2)] h (fun r7 h6 => r7 = none ∧ (Q none h6)))))))) : EvM w mX9_beginTrial (d + 1) [.ref a0, .int x1] h Q := by
  show Ev w (am_Z w) mX9_beginTrial (d + 1) 0 [(0, .ref a0), (1, .int x1)] [] h Q
  refine Ev.aload_n 0 (am_dt kX9_beginTrial 0 rfl) rfl rfl ?_
  obtain ⟨f1, k⟩ := k
  refine Ev.getRe (ci := 9) (k := 2) (r := a0 + 20) (am_dt kX9_beginTrial 1 rfl) (by decide) (by decide) rfl wd_374 f1.1 (am_L.r f1 2 rfl) (by omega) ?_
  obtain ⟨f2, k⟩ := k
  obtain ⟨f3, k⟩ := k
  refine Ev.getR (ci := 7) (k := 1) (am_dt kX9_beginTrial 2 rfl) (by decide) (by decide) rfl wd_424 f2.1 f3 ?_
  refine Ev.astore_n (lv' := [(2, .ref (hR h (a0 + 20) 1)), (0, .ref a0), (1, .int x1)]) (am_dt kX9_beginTrial 3 rfl) rfl (by decide) rfl ?_
  refine Ev.aload_n 1 (am_dt kX9_beginTrial 4 rfl) rfl rfl ?_
  refine Ev.getRe (ci := 9) (k := 5) (r := a0 + 44) (am_dt kX9_beginTrial 5 rfl) (by decide) (by decide) rfl wd_391 f1.1 (am_L.r f1 5 rfl) (by omega) ?_
  refine Ev.aload_n 0 (am_dt kX9_beginTrial 6 rfl) rfl rfl ?_
  refine Ev.iload_n 2 (am_dt kX9_beginTrial 7 rfl) rfl rfl ?_
  refine Ev.aload_n 0 (am_dt kX9_beginTrial 8 rfl) rfl rfl ?_
  obtain ⟨f4, k⟩ := k
  refine Ev.getRe (ci := 6) (k := 0) (r := (hR h (a0 + 20) 1) + 1) (am_dt kX9_beginTrial 9 rfl) (by decide) (by decide) rfl wd_428 f4.1 (am_L.r f4 0 rfl) (by omega) ?_
  refine Ev.aload_n 0 (am_dt kX9_beginTrial 10 rfl) rfl rfl ?_
  refine Ev.getRe (ci := 6) (k := 0) (r := (hR h (a0 + 20) 1) + 1) (am_dt kX9_beginTrial 11 rfl) (by decide) (by decide) rfl wd_428 f4.1 (am_L.r f4 0 rfl) (by omega) ?_
  obtain ⟨f5, k⟩ := k
  refine Ev.getRe (ci := 2) (k := 1) (r := ((hR h (a0 + 20) 1) + 1) + 2) (am_dt kX9_beginTrial 12 rfl) (by decide) (by decide) rfl wd_429 f5.1 (am_L.r f5 1 rfl) (by omega) ?_
  refine Ev.callV (ci := 3) (v := mX3_begin) (As := [.ref (hR h (a0 + 20) 1), .int x1, .ref ((hR h (a0 + 20) 1) + 1), .ref (((hR h (a0 + 20) 1) + 1) + 2)]) (st := []) okX3_begin wd_301 wd_302 wd_485 (am_dt kX9_beginTrial 13 rfl) (by decide) rfl rfl (Nat.le_of_ble_eq_true rfl) (Nat.le_of_ble_eq_true rfl) (am_L.s f1 5 rfl) ?_
  refine EvM.mono k (fun r7 h6 k => ?_)
  obtain ⟨rfl, k⟩ := k
  show Ev w _ _ _ 28 _ [] _ _
  exact Ev.vret (am_dt kX9_beginTrial 14 rfl) rfl k
set_option maxRecDepth 20000 in
set_option maxHeartbeats 2000000 in
theorem bX9_nightBits_0 {w : am_W} {d : Nat} {h : am_H} {Q : Option Value → am_H → Prop} {a0 : Nat}  (k : Ev w (am_Z w) mX9_nightBits (d + 1) 4 [(0, .ref a0), (1, .int 0), (2, .int 0)] [] h Q) : EvM w mX9_nightBits (d + 1) [.ref a0] h Q := by
  show Ev w (am_Z w) mX9_nightBits (d + 1) 0 [(0, .ref a0)] [] h Q
  refine Ev.iconst (v := 0) (am_dt kX9_nightBits 0 rfl) (by decide) ?_
  refine Ev.istore_n (lv' := [(1, .int 0), (0, .ref a0)]) (am_dt kX9_nightBits 1 rfl) rfl (by decide) rfl ?_
  refine Ev.iconst (v := 0) (am_dt kX9_nightBits 2 rfl) (by decide) ?_
  refine Ev.istore_n (lv' := [(2, .int 0), (1, .int 0), (0, .ref a0)]) (am_dt kX9_nightBits 3 rfl) rfl (by decide) rfl ?_
  exact Ev.sub [2, 1, 0] rfl k
set_option maxRecDepth 20000 in
set_option maxHeartbeats 2000000 in
theorem bX9_nightBits_4 {w : am_W} {d : Nat} {h : am_H} {Q : Option Value → am_H → Prop} {a0 : Nat} {x1 : Int32} {x2 : Int32}  (k : (am_L 9 a0 h) ∧ ((am_L 7 (a0 + 20) h) ∧ ((hR h (a0 + 20) 1 ≠ 0) ∧ ((am_L 6 (hR h (a0 + 20) 1) h) ∧ ((am_L 2 ((hR h (a0 + 20) 1) + 1) h) ∧ (((hI h ((hR h (a0 + 20) 1) + 1) 5) ≤ x2 → (Q (some (.int x1)) h)) ∧ (¬ (hI h ((hR h (a0 + 20) 1) + 1) 5) ≤ x2 → ((am_L 3 (a0 + 31) h) ∧ (EvM w mX9_get d [.ref (a0 + 40), .int x2] h (fun r8 h7 => ∃ v9 : Int32, r8 = some (.int v9) ∧ ((v9 = ((-1)) → (Ev w (am_Z w) mX9_nightBits (d + 1) 4 [(0, .ref a0), (1, .int (x1 ||| ((1 : Int32) <<< (x2 &&& 31)))), (2, .int (x2 + 1))] [] h7 Q)) ∧ (¬ v9 = ((-1)) → (Ev w (am_Z w) mX9_nightBits (d + 1) 4 [(0, .ref a0), (1, .int x1), (2, .int (x2 + 1))] [] h7 Q))))))))))))) : Ev w (am_Z w) mX9_nightBits (d + 1) 4 [(0, .ref a0), (1, .int x1), (2, .int x2)] [] h Q := by
  refine Ev.iload_n 2 (am_dt kX9_nightBits 4 rfl) rfl rfl ?_
  refine Ev.aload_n 0 (am_dt kX9_nightBits 5 rfl) rfl rfl ?_
  obtain ⟨f1, k⟩ := k
  refine Ev.getRe (ci := 9) (k := 2) (r := a0 + 20) (am_dt kX9_nightBits 6 rfl) (by decide) (by decide) rfl wd_374 f1.1 (am_L.r f1 2 rfl) (by omega) ?_
  obtain ⟨f2, k⟩ := k
  obtain ⟨f3, k⟩ := k
  refine Ev.getR (ci := 7) (k := 1) (am_dt kX9_nightBits 7 rfl) (by decide) (by decide) rfl wd_424 f2.1 f3 ?_
  obtain ⟨f4, k⟩ := k
  refine Ev.getRe (ci := 6) (k := 0) (r := (hR h (a0 + 20) 1) + 1) (am_dt kX9_nightBits 8 rfl) (by decide) (by decide) rfl wd_428 f4.1 (am_L.r f4 0 rfl) (by omega) ?_
  obtain ⟨f5, k⟩ := k
  refine Ev.getI (ci := 2) (k := 5) (am_dt kX9_nightBits 9 rfl) (by decide) (by decide) rfl wd_470 f5.1 ?_
  refine Ev.icmp_ge (tgt := 48) (am_dt kX9_nightBits 10 rfl) (by decide) (fun c => ?_) (fun c => ?_)
  · have k := k.1 c
    refine Ev.iload_n 1 (am_dt kX9_nightBits 26 rfl) rfl rfl ?_
    exact Ev.iret .int (am_dt kX9_nightBits 27 rfl) rfl rfl k
  · have k := k.2 c
    refine Ev.aload_n 0 (am_dt kX9_nightBits 11 rfl) rfl rfl ?_
    refine Ev.getRe (ci := 9) (k := 4) (r := a0 + 31) (am_dt kX9_nightBits 12 rfl) (by decide) (by decide) rfl wd_390 f1.1 (am_L.r f1 4 rfl) (by omega) ?_
    obtain ⟨f6, k⟩ := k
    refine Ev.getRe (ci := 3) (k := 3) (r := a0 + 40) (am_dt kX9_nightBits 13 rfl) (by decide) (by decide) rfl wd_446 f6.1 (am_L.r f6 6 rfl) (by omega) ?_
    refine Ev.iload_n 2 (am_dt kX9_nightBits 14 rfl) rfl rfl ?_
    refine Ev.callS (v := mX9_get) (As := [.ref (a0 + 40), .int x2]) (st := []) okX9_get wd_19 wd_430 (am_dt kX9_nightBits 15 rfl) rfl rfl (Nat.le_of_ble_eq_true rfl) (Nat.le_of_ble_eq_true rfl) ?_
    refine EvM.mono k (fun r8 h7 k => ?_)
    obtain ⟨v9, rfl, k⟩ := k
    show Ev w _ _ _ 32 _ [.int v9] _ _
    refine Ev.iconst (v := (-1)) (am_dt kX9_nightBits 16 rfl) (by decide) ?_
    refine Ev.icmp_ne (tgt := 42) (am_dt kX9_nightBits 17 rfl) (by decide) (fun c => ?_) (fun c => ?_)
    · have k := k.2 c
      refine Ev.iinc (v := x2 + 1) (lv' := [(2, .int (x2 + 1)), (0, .ref a0), (1, .int x1)]) 2 (am_dt kX9_nightBits 24 rfl) rfl rfl (by decide) rfl ?_
      refine Ev.goto (tgt := 4) (am_dt kX9_nightBits 25 rfl) (by decide) ?_
      exact Ev.sub [1, 2, 0] rfl k
    · have k := k.1 c
      refine Ev.iload_n 1 (am_dt kX9_nightBits 18 rfl) rfl rfl ?_
      refine Ev.iconst (v := 1) (am_dt kX9_nightBits 19 rfl) (by decide) ?_
      refine Ev.iload_n 2 (am_dt kX9_nightBits 20 rfl) rfl rfl ?_
      refine Ev.ishl (am_dt kX9_nightBits 21 rfl) ?_
      refine Ev.ior (am_dt kX9_nightBits 22 rfl) ?_
      refine Ev.istore_n (lv' := [(1, .int (x1 ||| ((1 : Int32) <<< (x2 &&& 31)))), (0, .ref a0), (2, .int x2)]) (am_dt kX9_nightBits 23 rfl) rfl (by decide) rfl ?_
      refine Ev.iinc (v := x2 + 1) (lv' := [(2, .int (x2 + 1)), (1, .int (x1 ||| ((1 : Int32) <<< (x2 &&& 31)))), (0, .ref a0)]) 2 (am_dt kX9_nightBits 24 rfl) rfl rfl (by decide) rfl ?_
      refine Ev.goto (tgt := 4) (am_dt kX9_nightBits 25 rfl) (by decide) ?_
      exact Ev.sub [2, 1, 0] rfl k
set_option maxRecDepth 20000 in
set_option maxHeartbeats 2000000 in
theorem bX9_waitsAt_0 {w : am_W} {d : Nat} {h : am_H} {Q : Option Value → am_H → Prop} {a0 : Nat} {x1 : Int32} {x2 : Int32} {x3 : Int32}  (k : (am_L 9 a0 h) ∧ ((am_L 7 (a0 + 20) h) ∧ ((hR h (a0 + 20) 1 ≠ 0) ∧ ((am_L 6 (hR h (a0 + 20) 1) h) ∧ ((am_L 2 ((hR h (a0 + 20) 1) + 1) h) ∧ (EvM w mX9_get d [.ref (((hR h (a0 + 20) 1) + 1) + 2), .int x1] h (fun r7 h6 => ∃ v8 : Int32, r7 = some (.int v8) ∧ ((v8 = x2 → ((am_L 9 a0 h6) ∧ (EvM w mX3_isWaitingBehind d [.ref (a0 + 31), .int x1, .int x3] h6 (fun r11 h10 => ∃ v12 : Int32, r11 = some (.int v12) ∧ ((v12 = 0 → (Q (some (.int 0)) h10)) ∧ (¬ v12 = 0 → (Q (some (.int 1)) h10))))))) ∧ (¬ v8 = x2 → (Q (some (.int 0)) h6)))))))))) : EvM w mX9_waitsAt (d + 1) [.ref a0, .int x1, .int x2, .int x3] h Q := by
  show Ev w (am_Z w) mX9_waitsAt (d + 1) 0 [(0, .ref a0), (1, .int x1), (2, .int x2), (3, .int x3)] [] h Q
  refine Ev.aload_n 0 (am_dt kX9_waitsAt 0 rfl) rfl rfl ?_
  obtain ⟨f1, k⟩ := k
  refine Ev.getRe (ci := 9) (k := 2) (r := a0 + 20) (am_dt kX9_waitsAt 1 rfl) (by decide) (by decide) rfl wd_374 f1.1 (am_L.r f1 2 rfl) (by omega) ?_
  obtain ⟨f2, k⟩ := k
  obtain ⟨f3, k⟩ := k
  refine Ev.getR (ci := 7) (k := 1) (am_dt kX9_waitsAt 2 rfl) (by decide) (by decide) rfl wd_424 f2.1 f3 ?_
  obtain ⟨f4, k⟩ := k
  refine Ev.getRe (ci := 6) (k := 0) (r := (hR h (a0 + 20) 1) + 1) (am_dt kX9_waitsAt 3 rfl) (by decide) (by decide) rfl wd_428 f4.1 (am_L.r f4 0 rfl) (by omega) ?_
  obtain ⟨f5, k⟩ := k
  refine Ev.getRe (ci := 2) (k := 1) (r := ((hR h (a0 + 20) 1) + 1) + 2) (am_dt kX9_waitsAt 4 rfl) (by decide) (by decide) rfl wd_429 f5.1 (am_L.r f5 1 rfl) (by omega) ?_
  refine Ev.iload_n 1 (am_dt kX9_waitsAt 5 rfl) rfl rfl ?_
  refine Ev.callS (v := mX9_get) (As := [.ref (((hR h (a0 + 20) 1) + 1) + 2), .int x1]) (st := []) okX9_get wd_19 wd_430 (am_dt kX9_waitsAt 6 rfl) rfl rfl (Nat.le_of_ble_eq_true rfl) (Nat.le_of_ble_eq_true rfl) ?_
  refine EvM.mono k (fun r7 h6 k => ?_)
  obtain ⟨v8, rfl, k⟩ := k
  show Ev w _ _ _ 17 _ [.int v8] _ _
  refine Ev.iload_n 2 (am_dt kX9_waitsAt 7 rfl) rfl rfl ?_
  refine Ev.icmp_ne (tgt := 37) (am_dt kX9_waitsAt 8 rfl) (by decide) (fun c => ?_) (fun c => ?_)
  · have k := k.2 c
    refine Ev.iconst (v := 0) (am_dt kX9_waitsAt 17 rfl) (by decide) ?_
    exact Ev.iret .boolean (am_dt kX9_waitsAt 18 rfl) rfl rfl k
  · have k := k.1 c
    refine Ev.aload_n 0 (am_dt kX9_waitsAt 9 rfl) rfl rfl ?_
    obtain ⟨f9, k⟩ := k
    refine Ev.getRe (ci := 9) (k := 4) (r := a0 + 31) (am_dt kX9_waitsAt 10 rfl) (by decide) (by decide) rfl wd_390 f9.1 (am_L.r f9 4 rfl) (by omega) ?_
    refine Ev.iload_n 1 (am_dt kX9_waitsAt 11 rfl) rfl rfl ?_
    refine Ev.iload_n 3 (am_dt kX9_waitsAt 12 rfl) rfl rfl ?_
    refine Ev.callV (ci := 3) (v := mX3_isWaitingBehind) (As := [.int x1, .int x3]) (st := []) okX3_isWaitingBehind wd_531 wd_532 wd_533 (am_dt kX9_waitsAt 13 rfl) (by decide) rfl rfl (Nat.le_of_ble_eq_true rfl) (Nat.le_of_ble_eq_true rfl) (am_L.s f9 4 rfl) ?_
    refine EvM.mono k (fun r11 h10 k => ?_)
    obtain ⟨v12, rfl, k⟩ := k
    show Ev w _ _ _ 30 _ [.int v12] _ _
    refine Ev.if_eq (tgt := 37) (am_dt kX9_waitsAt 14 rfl) (by decide) (fun c => ?_) (fun c => ?_)
    · have k := k.1 c
      refine Ev.iconst (v := 0) (am_dt kX9_waitsAt 17 rfl) (by decide) ?_
      exact Ev.iret .boolean (am_dt kX9_waitsAt 18 rfl) rfl rfl k
    · have k := k.2 c
      refine Ev.iconst (v := 1) (am_dt kX9_waitsAt 15 rfl) (by decide) ?_
      refine Ev.goto (tgt := 38) (am_dt kX9_waitsAt 16 rfl) (by decide) ?_
      exact Ev.iret .boolean (am_dt kX9_waitsAt 18 rfl) rfl rfl k
set_option maxRecDepth 20000 in
set_option maxHeartbeats 2000000 in
theorem bX9_heads_0 {w : am_W} {d : Nat} {h : am_H} {Q : Option Value → am_H → Prop} {a0 : Nat} {x1 : Int32} {x2 : Int32}  (k : Ev w (am_Z w) mX9_heads (d + 1) 5 [(0, .ref a0), (1, .int x1), (2, .int x2), (3, .int 0), (4, .int 0)] [] h Q) : EvM w mX9_heads (d + 1) [.ref a0, .int x1, .int x2] h Q := by
  show Ev w (am_Z w) mX9_heads (d + 1) 0 [(0, .ref a0), (1, .int x1), (2, .int x2)] [] h Q
  refine Ev.iconst (v := 0) (am_dt kX9_heads 0 rfl) (by decide) ?_
  refine Ev.istore_n (lv' := [(3, .int 0), (0, .ref a0), (1, .int x1), (2, .int x2)]) (am_dt kX9_heads 1 rfl) rfl (by decide) rfl ?_
  refine Ev.iconst (v := 0) (am_dt kX9_heads 2 rfl) (by decide) ?_
  refine Ev.istore (lv' := [(4, .int 0), (3, .int 0), (0, .ref a0), (1, .int x1), (2, .int x2)]) (am_dt kX9_heads 3 rfl) (by decide) rfl ?_
  exact Ev.sub [2, 3, 4, 1, 0] rfl k
set_option maxRecDepth 20000 in
set_option maxHeartbeats 2000000 in
theorem bX9_heads_5 {w : am_W} {d : Nat} {h : am_H} {Q : Option Value → am_H → Prop} {a0 : Nat} {x1 : Int32} {x2 : Int32} {x3 : Int32} {x4 : Int32}  (k : (am_L 9 a0 h) ∧ ((am_L 7 (a0 + 20) h) ∧ ((hR h (a0 + 20) 1 ≠ 0) ∧ ((am_L 6 (hR h (a0 + 20) 1) h) ∧ ((am_L 2 ((hR h (a0 + 20) 1) + 1) h) ∧ (((hI h ((hR h (a0 + 20) 1) + 1) 5) ≤ x4 → (Q (some (.int x3)) h)) ∧ (¬ (hI h ((hR h (a0 + 20) 1) + 1) 5) ≤ x4 → (EvM w mX9_waitsAt d [.ref a0, .int x4, .int x1, .int x2] h (fun r7 h6 => ∃ v8 : Int32, r7 = some (.int v8) ∧ ((v8 = 0 → (Ev w (am_Z w) mX9_heads (d + 1) 5 [(0, .ref a0), (1, .int x1), (2, .int x2), (3, .int (x3 + 0)), (4, .int (x4 + 1))] [] h6 Q)) ∧ (¬ v8 = 0 → (Ev w (am_Z w) mX9_heads (d + 1) 5 [(0, .ref a0), (1, .int x1), (2, .int x2), (3, .int (x3 + 1)), (4, .int (x4 + 1))] [] h6 Q)))))))))))) : Ev w (am_Z w) mX9_heads (d + 1) 5 [(0, .ref a0), (1, .int x1), (2, .int x2), (3, .int x3), (4, .int x4)] [] h Q := by
  refine Ev.iload 4 (am_dt kX9_heads 4 rfl) rfl ?_
  refine Ev.aload_n 0 (am_dt kX9_heads 5 rfl) rfl rfl ?_
  obtain ⟨f1, k⟩ := k
  refine Ev.getRe (ci := 9) (k := 2) (r := a0 + 20) (am_dt kX9_heads 6 rfl) (by decide) (by decide) rfl wd_374 f1.1 (am_L.r f1 2 rfl) (by omega) ?_
  obtain ⟨f2, k⟩ := k
  obtain ⟨f3, k⟩ := k
  refine Ev.getR (ci := 7) (k := 1) (am_dt kX9_heads 7 rfl) (by decide) (by decide) rfl wd_424 f2.1 f3 ?_
  obtain ⟨f4, k⟩ := k
  refine Ev.getRe (ci := 6) (k := 0) (r := (hR h (a0 + 20) 1) + 1) (am_dt kX9_heads 8 rfl) (by decide) (by decide) rfl wd_428 f4.1 (am_L.r f4 0 rfl) (by omega) ?_
  obtain ⟨f5, k⟩ := k
  refine Ev.getI (ci := 2) (k := 5) (am_dt kX9_heads 9 rfl) (by decide) (by decide) rfl wd_470 f5.1 ?_
  refine Ev.icmp_ge (tgt := 48) (am_dt kX9_heads 10 rfl) (by decide) (fun c => ?_) (fun c => ?_)
  · have k := k.1 c
    refine Ev.iload_n 3 (am_dt kX9_heads 25 rfl) rfl rfl ?_
    exact Ev.iret .int (am_dt kX9_heads 26 rfl) rfl rfl k
  · have k := k.2 c
    refine Ev.iload_n 3 (am_dt kX9_heads 11 rfl) rfl rfl ?_
    refine Ev.aload_n 0 (am_dt kX9_heads 12 rfl) rfl rfl ?_
    refine Ev.iload 4 (am_dt kX9_heads 13 rfl) rfl ?_
    refine Ev.iload_n 1 (am_dt kX9_heads 14 rfl) rfl rfl ?_
    refine Ev.iload_n 2 (am_dt kX9_heads 15 rfl) rfl rfl ?_
    refine Ev.callV (ci := 9) (v := mX9_waitsAt) (As := [.int x4, .int x1, .int x2]) (st := [.int x3]) okX9_waitsAt wd_534 wd_535 wd_536 (am_dt kX9_heads 16 rfl) (by decide) rfl rfl (Nat.le_of_ble_eq_true rfl) (Nat.le_of_ble_eq_true rfl) f1.1 ?_
    refine EvM.mono k (fun r7 h6 k => ?_)
    obtain ⟨v8, rfl, k⟩ := k
    show Ev w _ _ _ 32 _ [.int v8, .int x3] _ _
    refine Ev.if_eq (tgt := 39) (am_dt kX9_heads 17 rfl) (by decide) (fun c => ?_) (fun c => ?_)
    · have k := k.1 c
      refine Ev.iconst (v := 0) (am_dt kX9_heads 20 rfl) (by decide) ?_
      refine Ev.iadd (am_dt kX9_heads 21 rfl) ?_
      refine Ev.istore_n (lv' := [(3, .int (x3 + 0)), (0, .ref a0), (1, .int x1), (2, .int x2), (4, .int x4)]) (am_dt kX9_heads 22 rfl) rfl (by decide) rfl ?_
      refine Ev.iinc (v := x4 + 1) (lv' := [(4, .int (x4 + 1)), (3, .int (x3 + 0)), (0, .ref a0), (1, .int x1), (2, .int x2)]) 4 (am_dt kX9_heads 23 rfl) rfl rfl (by decide) rfl ?_
      refine Ev.goto (tgt := 5) (am_dt kX9_heads 24 rfl) (by decide) ?_
      exact Ev.sub [2, 3, 4, 1, 0] rfl k
    · have k := k.2 c
      refine Ev.iconst (v := 1) (am_dt kX9_heads 18 rfl) (by decide) ?_
      refine Ev.goto (tgt := 40) (am_dt kX9_heads 19 rfl) (by decide) ?_
      refine Ev.iadd (am_dt kX9_heads 21 rfl) ?_
      refine Ev.istore_n (lv' := [(3, .int (x3 + 1)), (0, .ref a0), (1, .int x1), (2, .int x2), (4, .int x4)]) (am_dt kX9_heads 22 rfl) rfl (by decide) rfl ?_
      refine Ev.iinc (v := x4 + 1) (lv' := [(4, .int (x4 + 1)), (3, .int (x3 + 1)), (0, .ref a0), (1, .int x1), (2, .int x2)]) 4 (am_dt kX9_heads 23 rfl) rfl rfl (by decide) rfl ?_
      refine Ev.goto (tgt := 5) (am_dt kX9_heads 24 rfl) (by decide) ?_
      exact Ev.sub [2, 3, 4, 1, 0] rfl k
set_option maxRecDepth 20000 in
set_option maxHeartbeats 2000000 in
theorem bX9_together_0 {w : am_W} {d : Nat} {h : am_H} {Q : Option Value → am_H → Prop} {a0 : Nat} {a1 : Nat} {x2 : Int32} {x3 : Int32}  (k : Ev w (am_Z w) mX9_together (d + 1) 6 [(0, .ref a0), (1, .ref a1), (2, .int x2), (3, .int x3), (4, .int 0), (5, .int 0)] [] h Q) : EvM w mX9_together (d + 1) [.ref a0, .ref a1, .int x2, .int x3] h Q := by
  show Ev w (am_Z w) mX9_together (d + 1) 0 [(0, .ref a0), (1, .ref a1), (2, .int x2), (3, .int x3)] [] h Q
  refine Ev.iconst (v := 0) (am_dt kX9_together 0 rfl) (by decide) ?_
  refine Ev.istore (lv' := [(4, .int 0), (0, .ref a0), (1, .ref a1), (2, .int x2), (3, .int x3)]) (am_dt kX9_together 1 rfl) (by decide) rfl ?_
  refine Ev.iconst (v := 0) (am_dt kX9_together 2 rfl) (by decide) ?_
  refine Ev.istore (lv' := [(5, .int 0), (4, .int 0), (0, .ref a0), (1, .ref a1), (2, .int x2), (3, .int x3)]) (am_dt kX9_together 3 rfl) (by decide) rfl ?_
  exact Ev.sub [2, 3, 4, 5, 1, 0] rfl k
set_option maxRecDepth 20000 in
set_option maxHeartbeats 2000000 in
theorem bX9_together_6 {w : am_W} {d : Nat} {h : am_H} {Q : Option Value → am_H → Prop} {a0 : Nat} {a1 : Nat} {x2 : Int32} {x3 : Int32} {x4 : Int32} {x5 : Int32}  (k : (am_L 9 a0 h) ∧ ((am_L 7 (a0 + 20) h) ∧ ((hR h (a0 + 20) 1 ≠ 0) ∧ ((am_L 6 (hR h (a0 + 20) 1) h) ∧ ((am_L 2 ((hR h (a0 + 20) 1) + 1) h) ∧ (((hI h ((hR h (a0 + 20) 1) + 1) 5) ≤ x5 → (Q (some (.int x4)) h)) ∧ (¬ (hI h ((hR h (a0 + 20) 1) + 1) 5) ≤ x5 → (EvM w mX9_waitsAt d [.ref a0, .int x5, .int x2, .int x3] h (fun r7 h6 => ∃ v8 : Int32, r7 = some (.int v8) ∧ ((v8 = 0 → (Ev w (am_Z w) mX9_together (d + 1) 6 [(0, .ref a0), (1, .ref a1), (2, .int x2), (3, .int x3), (4, .int (x4 + 0)), (5, .int (x5 + 1))] [] h6 Q)) ∧ (¬ v8 = 0 → (EvM w mX9_get d [.ref a1, .int x5] h6 (fun r10 h9 => ∃ v11 : Int32, r10 = some (.int v11) ∧ (Ev w (am_Z w) mX9_together (d + 1) 6 [(0, .ref a0), (1, .ref a1), (2, .int x2), (3, .int x3), (4, .int (x4 + v11)), (5, .int (x5 + 1))] [] h9 Q)))))))))))))) : Ev w (am_Z w) mX9_together (d + 1) 6 [(0, .ref a0), (1, .ref a1), (2, .int x2), (3, .int x3), (4, .int x4), (5, .int x5)] [] h Q := by
  refine Ev.iload 5 (am_dt kX9_together 4 rfl) rfl ?_
  refine Ev.aload_n 0 (am_dt kX9_together 5 rfl) rfl rfl ?_
  obtain ⟨f1, k⟩ := k
  refine Ev.getRe (ci := 9) (k := 2) (r := a0 + 20) (am_dt kX9_together 6 rfl) (by decide) (by decide) rfl wd_374 f1.1 (am_L.r f1 2 rfl) (by omega) ?_
  obtain ⟨f2, k⟩ := k
  obtain ⟨f3, k⟩ := k
  refine Ev.getR (ci := 7) (k := 1) (am_dt kX9_together 7 rfl) (by decide) (by decide) rfl wd_424 f2.1 f3 ?_
  obtain ⟨f4, k⟩ := k
  refine Ev.getRe (ci := 6) (k := 0) (r := (hR h (a0 + 20) 1) + 1) (am_dt kX9_together 8 rfl) (by decide) (by decide) rfl wd_428 f4.1 (am_L.r f4 0 rfl) (by omega) ?_
  obtain ⟨f5, k⟩ := k
  refine Ev.getI (ci := 2) (k := 5) (am_dt kX9_together 9 rfl) (by decide) (by decide) rfl wd_470 f5.1 ?_
  refine Ev.icmp_ge (tgt := 56) (am_dt kX9_together 10 rfl) (by decide) (fun c => ?_) (fun c => ?_)
  · have k := k.1 c
    refine Ev.iload 4 (am_dt kX9_together 27 rfl) rfl ?_
    exact Ev.iret .int (am_dt kX9_together 28 rfl) rfl rfl k
  · have k := k.2 c
    refine Ev.iload 4 (am_dt kX9_together 11 rfl) rfl ?_
    refine Ev.aload_n 0 (am_dt kX9_together 12 rfl) rfl rfl ?_
    refine Ev.iload 5 (am_dt kX9_together 13 rfl) rfl ?_
    refine Ev.iload_n 2 (am_dt kX9_together 14 rfl) rfl rfl ?_
    refine Ev.iload_n 3 (am_dt kX9_together 15 rfl) rfl rfl ?_
    refine Ev.callV (ci := 9) (v := mX9_waitsAt) (As := [.int x5, .int x2, .int x3]) (st := [.int x4]) okX9_waitsAt wd_534 wd_535 wd_536 (am_dt kX9_together 16 rfl) (by decide) rfl rfl (Nat.le_of_ble_eq_true rfl) (Nat.le_of_ble_eq_true rfl) f1.1 ?_
    refine EvM.mono k (fun r7 h6 k => ?_)
    obtain ⟨v8, rfl, k⟩ := k
    show Ev w _ _ _ 34 _ [.int v8, .int x4] _ _
    refine Ev.if_eq (tgt := 46) (am_dt kX9_together 17 rfl) (by decide) (fun c => ?_) (fun c => ?_)
    · have k := k.1 c
      refine Ev.iconst (v := 0) (am_dt kX9_together 22 rfl) (by decide) ?_
      refine Ev.iadd (am_dt kX9_together 23 rfl) ?_
      refine Ev.istore (lv' := [(4, .int (x4 + 0)), (0, .ref a0), (1, .ref a1), (2, .int x2), (3, .int x3), (5, .int x5)]) (am_dt kX9_together 24 rfl) (by decide) rfl ?_
      refine Ev.iinc (v := x5 + 1) (lv' := [(5, .int (x5 + 1)), (4, .int (x4 + 0)), (0, .ref a0), (1, .ref a1), (2, .int x2), (3, .int x3)]) 5 (am_dt kX9_together 25 rfl) rfl rfl (by decide) rfl ?_
      refine Ev.goto (tgt := 6) (am_dt kX9_together 26 rfl) (by decide) ?_
      exact Ev.sub [2, 3, 4, 5, 1, 0] rfl k
    · have k := k.2 c
      refine Ev.aload_n 1 (am_dt kX9_together 18 rfl) rfl rfl ?_
      refine Ev.iload 5 (am_dt kX9_together 19 rfl) rfl ?_
      refine Ev.callS (v := mX9_get) (As := [.ref a1, .int x5]) (st := [.int x4]) okX9_get wd_19 wd_430 (am_dt kX9_together 20 rfl) rfl rfl (Nat.le_of_ble_eq_true rfl) (Nat.le_of_ble_eq_true rfl) ?_
      refine EvM.mono k (fun r10 h9 k => ?_)
      obtain ⟨v11, rfl, k⟩ := k
      show Ev w _ _ _ 43 _ [.int v11, .int x4] _ _
      refine Ev.goto (tgt := 47) (am_dt kX9_together 21 rfl) (by decide) ?_
      refine Ev.iadd (am_dt kX9_together 23 rfl) ?_
      refine Ev.istore (lv' := [(4, .int (x4 + v11)), (0, .ref a0), (1, .ref a1), (2, .int x2), (3, .int x3), (5, .int x5)]) (am_dt kX9_together 24 rfl) (by decide) rfl ?_
      refine Ev.iinc (v := x5 + 1) (lv' := [(5, .int (x5 + 1)), (4, .int (x4 + v11)), (0, .ref a0), (1, .ref a1), (2, .int x2), (3, .int x3)]) 5 (am_dt kX9_together 25 rfl) rfl rfl (by decide) rfl ?_
      refine Ev.goto (tgt := 6) (am_dt kX9_together 26 rfl) (by decide) ?_
      exact Ev.sub [2, 3, 4, 5, 1, 0] rfl k
set_option maxRecDepth 20000 in
set_option maxHeartbeats 2000000 in
theorem bX9_mayTurn_0 {w : am_W} {d : Nat} {h : am_H} {Q : Option Value → am_H → Prop} {a0 : Nat} {x1 : Int32} {x2 : Int32}  (k : (am_L 9 a0 h) ∧ (EvM w mX9_isPerson d [.ref a0, .int x1] h (fun r3 h2 => ∃ v4 : Int32, r3 = some (.int v4) ∧ ((v4 = 0 → (Q (some (.int 0)) h2)) ∧ (¬ v4 = 0 → (EvM w mX9_isMinute d [.int x2] h2 (fun r6 h5 => ∃ v7 : Int32, r6 = some (.int v7) ∧ ((v7 = 0 → (Q (some (.int 0)) h5)) ∧ (¬ v7 = 0 → ((am_L 9 a0 h5) ∧ ((am_L 7 (a0 + 20) h5) ∧ ((hR h5 (a0 + 20) 1 ≠ 0) ∧ ((am_L 6 (hR h5 (a0 + 20) 1) h5) ∧ (EvM w mX9_get d [.ref ((hR h5 (a0 + 20) 1) + 8), .int x1] h5 (fun r13 h12 => ∃ v14 : Int32, r13 = some (.int v14) ∧ ((v14 = 85 → ((am_L 9 a0 h12) ∧ (EvM w mX3_isWaitingBehind d [.ref (a0 + 31), .int x1, .int x2] h12 (fun r17 h16 => ∃ v18 : Int32, r17 = some (.int v18) ∧ ((v18 = 0 → (Q (some (.int 0)) h16)) ∧ (¬ v18 = 0 → (Q (some (.int 1)) h16))))))) ∧ (¬ v14 = 85 → (Q (some (.int 0)) h12)))))))))))))))))) : EvM w mX9_mayTurn (d + 1) [.ref a0, .int x1, .int x2] h Q := by
  show Ev w (am_Z w) mX9_mayTurn (d + 1) 0 [(0, .ref a0), (1, .int x1), (2, .int x2)] [] h Q
  refine Ev.aload_n 0 (am_dt kX9_mayTurn 0 rfl) rfl rfl ?_
  refine Ev.iload_n 1 (am_dt kX9_mayTurn 1 rfl) rfl rfl ?_
  obtain ⟨f1, k⟩ := k
  refine Ev.callV (ci := 9) (v := mX9_isPerson) (As := [.int x1]) (st := []) okX9_isPerson wd_425 wd_426 wd_427 (am_dt kX9_mayTurn 2 rfl) (by decide) rfl rfl (Nat.le_of_ble_eq_true rfl) (Nat.le_of_ble_eq_true rfl) f1.1 ?_
  refine EvM.mono k (fun r3 h2 k => ?_)
  obtain ⟨v4, rfl, k⟩ := k
  show Ev w _ _ _ 5 _ [.int v4] _ _
  refine Ev.if_eq (tgt := 50) (am_dt kX9_mayTurn 3 rfl) (by decide) (fun c => ?_) (fun c => ?_)
  · have k := k.1 c
    refine Ev.iconst (v := 0) (am_dt kX9_mayTurn 23 rfl) (by decide) ?_
    exact Ev.iret .boolean (am_dt kX9_mayTurn 24 rfl) rfl rfl k
  · have k := k.2 c
    refine Ev.iload_n 2 (am_dt kX9_mayTurn 4 rfl) rfl rfl ?_
    refine Ev.callS (v := mX9_isMinute) (As := [.int x2]) (st := []) okX9_isMinute wd_43 wd_454 (am_dt kX9_mayTurn 5 rfl) rfl rfl (Nat.le_of_ble_eq_true rfl) (Nat.le_of_ble_eq_true rfl) ?_
    refine EvM.mono k (fun r6 h5 k => ?_)
    obtain ⟨v7, rfl, k⟩ := k
    show Ev w _ _ _ 12 _ [.int v7] _ _
    refine Ev.if_eq (tgt := 50) (am_dt kX9_mayTurn 6 rfl) (by decide) (fun c => ?_) (fun c => ?_)
    · have k := k.1 c
      refine Ev.iconst (v := 0) (am_dt kX9_mayTurn 23 rfl) (by decide) ?_
      exact Ev.iret .boolean (am_dt kX9_mayTurn 24 rfl) rfl rfl k
    · have k := k.2 c
      refine Ev.aload_n 0 (am_dt kX9_mayTurn 7 rfl) rfl rfl ?_
      obtain ⟨f8, k⟩ := k
      refine Ev.getRe (ci := 9) (k := 2) (r := a0 + 20) (am_dt kX9_mayTurn 8 rfl) (by decide) (by decide) rfl wd_374 f8.1 (am_L.r f8 2 rfl) (by omega) ?_
      obtain ⟨f9, k⟩ := k
      obtain ⟨f10, k⟩ := k
      refine Ev.getR (ci := 7) (k := 1) (am_dt kX9_mayTurn 9 rfl) (by decide) (by decide) rfl wd_424 f9.1 f10 ?_
      obtain ⟨f11, k⟩ := k
      refine Ev.getRe (ci := 6) (k := 2) (r := (hR h5 (a0 + 20) 1) + 8) (am_dt kX9_mayTurn 10 rfl) (by decide) (by decide) rfl wd_434 f11.1 (am_L.r f11 2 rfl) (by omega) ?_
      refine Ev.iload_n 1 (am_dt kX9_mayTurn 11 rfl) rfl rfl ?_
      refine Ev.callS (v := mX9_get) (As := [.ref ((hR h5 (a0 + 20) 1) + 8), .int x1]) (st := []) okX9_get wd_19 wd_430 (am_dt kX9_mayTurn 12 rfl) rfl rfl (Nat.le_of_ble_eq_true rfl) (Nat.le_of_ble_eq_true rfl) ?_
      refine EvM.mono k (fun r13 h12 k => ?_)
      obtain ⟨v14, rfl, k⟩ := k
      show Ev w _ _ _ 29 _ [.int v14] _ _
      refine Ev.bipush (v := 85) (am_dt kX9_mayTurn 13 rfl) (by decide) ?_
      refine Ev.icmp_ne (tgt := 50) (am_dt kX9_mayTurn 14 rfl) (by decide) (fun c => ?_) (fun c => ?_)
      · have k := k.2 c
        refine Ev.iconst (v := 0) (am_dt kX9_mayTurn 23 rfl) (by decide) ?_
        exact Ev.iret .boolean (am_dt kX9_mayTurn 24 rfl) rfl rfl k
      · have k := k.1 c
        refine Ev.aload_n 0 (am_dt kX9_mayTurn 15 rfl) rfl rfl ?_
        obtain ⟨f15, k⟩ := k
        refine Ev.getRe (ci := 9) (k := 4) (r := a0 + 31) (am_dt kX9_mayTurn 16 rfl) (by decide) (by decide) rfl wd_390 f15.1 (am_L.r f15 4 rfl) (by omega) ?_
        refine Ev.iload_n 1 (am_dt kX9_mayTurn 17 rfl) rfl rfl ?_
        refine Ev.iload_n 2 (am_dt kX9_mayTurn 18 rfl) rfl rfl ?_
        refine Ev.callV (ci := 3) (v := mX3_isWaitingBehind) (As := [.int x1, .int x2]) (st := []) okX3_isWaitingBehind wd_531 wd_532 wd_533 (am_dt kX9_mayTurn 19 rfl) (by decide) rfl rfl (Nat.le_of_ble_eq_true rfl) (Nat.le_of_ble_eq_true rfl) (am_L.s f15 4 rfl) ?_
        refine EvM.mono k (fun r17 h16 k => ?_)
        obtain ⟨v18, rfl, k⟩ := k
        show Ev w _ _ _ 43 _ [.int v18] _ _
        refine Ev.if_eq (tgt := 50) (am_dt kX9_mayTurn 20 rfl) (by decide) (fun c => ?_) (fun c => ?_)
        · have k := k.1 c
          refine Ev.iconst (v := 0) (am_dt kX9_mayTurn 23 rfl) (by decide) ?_
          exact Ev.iret .boolean (am_dt kX9_mayTurn 24 rfl) rfl rfl k
        · have k := k.2 c
          refine Ev.iconst (v := 1) (am_dt kX9_mayTurn 21 rfl) (by decide) ?_
          refine Ev.goto (tgt := 51) (am_dt kX9_mayTurn 22 rfl) (by decide) ?_
          exact Ev.iret .boolean (am_dt kX9_mayTurn 24 rfl) rfl rfl k
set_option maxRecDepth 20000 in
set_option maxHeartbeats 2000000 in
theorem bX9_gainByTurning_0 {w : am_W} {d : Nat} {h : am_H} {Q : Option Value → am_H → Prop} {a0 : Nat} {x1 : Int32} {x2 : Int32}  (k : (am_L 9 a0 h) ∧ ((am_L 7 (a0 + 20) h) ∧ (EvM w mX9_beginTrial d [.ref a0, .int (hI h (a0 + 20) 2)] h (fun r4 h3 => r4 = none ∧ ((am_L 9 a0 h3) ∧ (EvM w mX3_letGoHome d [.ref (a0 + 44), .int x1, .int x2] h3 (fun r7 h6 => r7 = none ∧ ((am_L 9 a0 h6) ∧ (EvM w mX3_run d [.ref (a0 + 44), .int 1440] h6 (fun r10 h9 => r10 = none ∧ ((am_L 9 a0 h9) ∧ (EvM w mX3_costWithout d [.ref (a0 + 31), .int x1] h9 (fun r13 h12 => ∃ v14 : Int32, r13 = some (.int v14) ∧ ((am_L 9 a0 h12) ∧ (EvM w mX3_costWithout d [.ref (a0 + 44), .int x1] h12 (fun r17 h16 => ∃ v18 : Int32, r17 = some (.int v18) ∧ (Q (some (.int (v14 - v18))) h16))))))))))))))))) : EvM w mX9_gainByTurning (d + 1) [.ref a0, .int x1, .int x2] h Q := by
  show Ev w (am_Z w) mX9_gainByTurning (d + 1) 0 [(0, .ref a0), (1, .int x1), (2, .int x2)] [] h Q
  refine Ev.aload_n 0 (am_dt kX9_gainByTurning 0 rfl) rfl rfl ?_
  refine Ev.aload_n 0 (am_dt kX9_gainByTurning 1 rfl) rfl rfl ?_
  obtain ⟨f1, k⟩ := k
  refine Ev.getRe (ci := 9) (k := 2) (r := a0 + 20) (am_dt kX9_gainByTurning 2 rfl) (by decide) (by decide) rfl wd_374 f1.1 (am_L.r f1 2 rfl) (by omega) ?_
  obtain ⟨f2, k⟩ := k
  refine Ev.getI (ci := 7) (k := 2) (am_dt kX9_gainByTurning 3 rfl) (by decide) (by decide) rfl wd_437 f2.1 ?_
  refine Ev.callV (ci := 9) (v := mX9_beginTrial) (As := [.int (hI h (a0 + 20) 2)]) (st := []) okX9_beginTrial wd_461 wd_462 wd_463 (am_dt kX9_gainByTurning 4 rfl) (by decide) rfl rfl (Nat.le_of_ble_eq_true rfl) (Nat.le_of_ble_eq_true rfl) f1.1 ?_
  refine EvM.mono k (fun r4 h3 k => ?_)
  obtain ⟨rfl, k⟩ := k
  show Ev w _ _ _ 11 _ [] _ _
  refine Ev.aload_n 0 (am_dt kX9_gainByTurning 5 rfl) rfl rfl ?_
  obtain ⟨f5, k⟩ := k
  refine Ev.getRe (ci := 9) (k := 5) (r := a0 + 44) (am_dt kX9_gainByTurning 6 rfl) (by decide) (by decide) rfl wd_391 f5.1 (am_L.r f5 5 rfl) (by omega) ?_
  refine Ev.iload_n 1 (am_dt kX9_gainByTurning 7 rfl) rfl rfl ?_
  refine Ev.iload_n 2 (am_dt kX9_gainByTurning 8 rfl) rfl rfl ?_
  refine Ev.callV (ci := 3) (v := mX3_letGoHome) (As := [.int x1, .int x2]) (st := []) okX3_letGoHome wd_537 wd_538 wd_539 (am_dt kX9_gainByTurning 9 rfl) (by decide) rfl rfl (Nat.le_of_ble_eq_true rfl) (Nat.le_of_ble_eq_true rfl) (am_L.s f5 5 rfl) ?_
  refine EvM.mono k (fun r7 h6 k => ?_)
  obtain ⟨rfl, k⟩ := k
  show Ev w _ _ _ 20 _ [] _ _
  refine Ev.aload_n 0 (am_dt kX9_gainByTurning 10 rfl) rfl rfl ?_
  obtain ⟨f8, k⟩ := k
  refine Ev.getRe (ci := 9) (k := 5) (r := a0 + 44) (am_dt kX9_gainByTurning 11 rfl) (by decide) (by decide) rfl wd_391 f8.1 (am_L.r f8 5 rfl) (by omega) ?_
  refine Ev.sipush (v := 1440) (am_dt kX9_gainByTurning 12 rfl) (by decide) ?_
  refine Ev.callV (ci := 3) (v := mX3_run) (As := [.int 1440]) (st := []) okX3_run wd_304 wd_305 wd_464 (am_dt kX9_gainByTurning 13 rfl) (by decide) rfl rfl (Nat.le_of_ble_eq_true rfl) (Nat.le_of_ble_eq_true rfl) (am_L.s f8 5 rfl) ?_
  refine EvM.mono k (fun r10 h9 k => ?_)
  obtain ⟨rfl, k⟩ := k
  show Ev w _ _ _ 30 _ [] _ _
  refine Ev.aload_n 0 (am_dt kX9_gainByTurning 14 rfl) rfl rfl ?_
  obtain ⟨f11, k⟩ := k
  refine Ev.getRe (ci := 9) (k := 4) (r := a0 + 31) (am_dt kX9_gainByTurning 15 rfl) (by decide) (by decide) rfl wd_390 f11.1 (am_L.r f11 4 rfl) (by omega) ?_
  refine Ev.iload_n 1 (am_dt kX9_gainByTurning 16 rfl) rfl rfl ?_
  refine Ev.callV (ci := 3) (v := mX3_costWithout) (As := [.int x1]) (st := []) okX3_costWithout wd_349 wd_350 wd_447 (am_dt kX9_gainByTurning 17 rfl) (by decide) rfl rfl (Nat.le_of_ble_eq_true rfl) (Nat.le_of_ble_eq_true rfl) (am_L.s f11 4 rfl) ?_
  refine EvM.mono k (fun r13 h12 k => ?_)
  obtain ⟨v14, rfl, k⟩ := k
  show Ev w _ _ _ 38 _ [.int v14] _ _
  refine Ev.aload_n 0 (am_dt kX9_gainByTurning 18 rfl) rfl rfl ?_
  obtain ⟨f15, k⟩ := k
  refine Ev.getRe (ci := 9) (k := 5) (r := a0 + 44) (am_dt kX9_gainByTurning 19 rfl) (by decide) (by decide) rfl wd_391 f15.1 (am_L.r f15 5 rfl) (by omega) ?_
  refine Ev.iload_n 1 (am_dt kX9_gainByTurning 20 rfl) rfl rfl ?_
  refine Ev.callV (ci := 3) (v := mX3_costWithout) (As := [.int x1]) (st := [.int v14]) okX3_costWithout wd_349 wd_350 wd_447 (am_dt kX9_gainByTurning 21 rfl) (by decide) rfl rfl (Nat.le_of_ble_eq_true rfl) (Nat.le_of_ble_eq_true rfl) (am_L.s f15 5 rfl) ?_
  refine EvM.mono k (fun r17 h16 k => ?_)
  obtain ⟨v18, rfl, k⟩ := k
  show Ev w _ _ _ 46 _ [.int v18, .int v14] _ _
  refine Ev.isub (am_dt kX9_gainByTurning 22 rfl) ?_
  exact Ev.iret .int (am_dt kX9_gainByTurning 23 rfl) rfl rfl k
set_option maxRecDepth 20000 in
set_option maxHeartbeats 2000000 in
theorem bX9_levels_0 {w : am_W} {d : Nat} {h : am_H} {Q : Option Value → am_H → Prop} {a0 : Nat} {x1 : Int32} {x2 : Int32}  (k : (am_L 9 a0 h) ∧ ((am_L 7 (a0 + 20) h) ∧ ((hR h (a0 + 20) 1 ≠ 0) ∧ ((am_L 6 (hR h (a0 + 20) 1) h) ∧ (Ev w (am_Z w) mX9_levels (d + 1) 48 [(1, .int x1), (2, .int x2), (3, .long (Int32.toInt64 (hI h (hR h (a0 + 20) 1) 10))), (5, .long ((Int32.toInt64 (hI h (hR h (a0 + 20) 1) 9)) * ((Int32.toInt64 (hI h (hR h (a0 + 20) 1) 10)) - (Int32.toInt64 (hI h (hR h (a0 + 20) 1) 9))))), (7, .long 1), (9, .long 0), (11, .int 1)] [] h Q))))) : EvM w mX9_levels (d + 1) [.ref a0, .int x1, .int x2] h Q := by
  show Ev w (am_Z w) mX9_levels (d + 1) 0 [(0, .ref a0), (1, .int x1), (2, .int x2)] [] h Q
  refine Ev.aload_n 0 (am_dt kX9_levels 0 rfl) rfl rfl ?_
  obtain ⟨f1, k⟩ := k
  refine Ev.getRe (ci := 9) (k := 2) (r := a0 + 20) (am_dt kX9_levels 1 rfl) (by decide) (by decide) rfl wd_374 f1.1 (am_L.r f1 2 rfl) (by omega) ?_
  obtain ⟨f2, k⟩ := k
  obtain ⟨f3, k⟩ := k
  refine Ev.getR (ci := 7) (k := 1) (am_dt kX9_levels 2 rfl) (by decide) (by decide) rfl wd_424 f2.1 f3 ?_
  obtain ⟨f4, k⟩ := k
  refine Ev.getI (ci := 6) (k := 10) (am_dt kX9_levels 3 rfl) (by decide) (by decide) rfl wd_503 f4.1 ?_
  refine Ev.i2l (am_dt kX9_levels 4 rfl) ?_
  refine Ev.lstore_n (lv' := [(3, .long (Int32.toInt64 (hI h (hR h (a0 + 20) 1) 10))), (0, .ref a0), (1, .int x1), (2, .int x2)]) (am_dt kX9_levels 5 rfl) rfl (by decide) rfl ?_
  refine Ev.aload_n 1 (am_dt kX9_levels 6 rfl) rfl rfl ?_
  refine Ev.getRe (ci := 9) (k := 2) (r := a0 + 20) (am_dt kX9_levels 7 rfl) (by decide) (by decide) rfl wd_374 f1.1 (am_L.r f1 2 rfl) (by omega) ?_
  refine Ev.getR (ci := 7) (k := 1) (am_dt kX9_levels 8 rfl) (by decide) (by decide) rfl wd_424 f2.1 f3 ?_
  refine Ev.getI (ci := 6) (k := 9) (am_dt kX9_levels 9 rfl) (by decide) (by decide) rfl wd_540 f4.1 ?_
  refine Ev.i2l (am_dt kX9_levels 10 rfl) ?_
  refine Ev.lload_n 0 (am_dt kX9_levels 11 rfl) rfl rfl ?_
  refine Ev.aload_n 1 (am_dt kX9_levels 12 rfl) rfl rfl ?_
  refine Ev.getRe (ci := 9) (k := 2) (r := a0 + 20) (am_dt kX9_levels 13 rfl) (by decide) (by decide) rfl wd_374 f1.1 (am_L.r f1 2 rfl) (by omega) ?_
  refine Ev.getR (ci := 7) (k := 1) (am_dt kX9_levels 14 rfl) (by decide) (by decide) rfl wd_424 f2.1 f3 ?_
  refine Ev.getI (ci := 6) (k := 9) (am_dt kX9_levels 15 rfl) (by decide) (by decide) rfl wd_540 f4.1 ?_
  refine Ev.i2l (am_dt kX9_levels 16 rfl) ?_
  refine Ev.lsub (am_dt kX9_levels 17 rfl) ?_
  refine Ev.lmul (am_dt kX9_levels 18 rfl) ?_
  refine Ev.lstore (lv' := [(5, .long ((Int32.toInt64 (hI h (hR h (a0 + 20) 1) 9)) * ((Int32.toInt64 (hI h (hR h (a0 + 20) 1) 10)) - (Int32.toInt64 (hI h (hR h (a0 + 20) 1) 9))))), (3, .long (Int32.toInt64 (hI h (hR h (a0 + 20) 1) 10))), (0, .ref a0), (1, .int x1), (2, .int x2)]) (am_dt kX9_levels 19 rfl) (by decide) rfl ?_
  refine Ev.lconst (v := 1) (am_dt kX9_levels 20 rfl) (by decide) ?_
  refine Ev.lstore (lv' := [(7, .long 1), (5, .long ((Int32.toInt64 (hI h (hR h (a0 + 20) 1) 9)) * ((Int32.toInt64 (hI h (hR h (a0 + 20) 1) 10)) - (Int32.toInt64 (hI h (hR h (a0 + 20) 1) 9))))), (3, .long (Int32.toInt64 (hI h (hR h (a0 + 20) 1) 10))), (0, .ref a0), (1, .int x1), (2, .int x2)]) (am_dt kX9_levels 21 rfl) (by decide) rfl ?_
  refine Ev.lconst (v := 0) (am_dt kX9_levels 22 rfl) (by decide) ?_
  refine Ev.lstore (lv' := [(9, .long 0), (7, .long 1), (5, .long ((Int32.toInt64 (hI h (hR h (a0 + 20) 1) 9)) * ((Int32.toInt64 (hI h (hR h (a0 + 20) 1) 10)) - (Int32.toInt64 (hI h (hR h (a0 + 20) 1) 9))))), (3, .long (Int32.toInt64 (hI h (hR h (a0 + 20) 1) 10))), (0, .ref a0), (1, .int x1), (2, .int x2)]) (am_dt kX9_levels 23 rfl) (by decide) rfl ?_
  refine Ev.iconst (v := 1) (am_dt kX9_levels 24 rfl) (by decide) ?_
  refine Ev.istore (lv' := [(11, .int 1), (9, .long 0), (7, .long 1), (5, .long ((Int32.toInt64 (hI h (hR h (a0 + 20) 1) 9)) * ((Int32.toInt64 (hI h (hR h (a0 + 20) 1) 10)) - (Int32.toInt64 (hI h (hR h (a0 + 20) 1) 9))))), (3, .long (Int32.toInt64 (hI h (hR h (a0 + 20) 1) 10))), (0, .ref a0), (1, .int x1), (2, .int x2)]) (am_dt kX9_levels 25 rfl) (by decide) rfl ?_
  exact Ev.sub [6, 7, 4, 3, 2, 1, 0] rfl k
set_option maxRecDepth 20000 in
set_option maxHeartbeats 2000000 in
theorem bX9_levels_48 {w : am_W} {d : Nat} {h : am_H} {Q : Option Value → am_H → Prop} {x1 : Int32} {x2 : Int32} {y3 : Int64} {y5 : Int64} {y7 : Int64} {y9 : Int64} {x11 : Int32}  (k : ((x1 / 2) < x11 → (Q (some (.long y9)) h)) ∧ (¬ (x1 / 2) < x11 → (EvM w mX9_orders d [.int x11] h (fun r2 h1 => ∃ v3 : Int64, r2 = some (.long v3) ∧ ((x2 = 0 → (Ev w (am_Z w) mX9_levels (d + 1) 48 [(1, .int x1), (2, .int x2), (3, .long y3), (5, .long y5), (7, .long (y7 * y5)), (9, .long (((y9 * y3) * y3) + (v3 * (y7 * y5)))), (11, .int (x11 + 1))] [] h1 Q)) ∧ (¬ x2 = 0 → (Ev w (am_Z w) mX9_levels (d + 1) 48 [(1, .int x1), (2, .int x2), (3, .long y3), (5, .long y5), (7, .long (y7 * y5)), (9, .long (((y9 * y3) * y3) + ((Int32.toInt64 (2 * x11)) * (v3 * (y7 * y5))))), (11, .int (x11 + 1))] [] h1 Q))))))) : Ev w (am_Z w) mX9_levels (d + 1) 48 [(1, .int x1), (2, .int x2), (3, .long y3), (5, .long y5), (7, .long y7), (9, .long y9), (11, .int x11)] [] h Q := by
  refine Ev.iload 6 (am_dt kX9_levels 26 rfl) rfl ?_
  refine Ev.iload_n 0 (am_dt kX9_levels 27 rfl) rfl rfl ?_
  refine Ev.iconst (v := 2) (am_dt kX9_levels 28 rfl) (by decide) ?_
  refine Ev.idiv (am_dt kX9_levels 29 rfl) (by decide) ?_
  refine Ev.icmp_gt (tgt := 105) (am_dt kX9_levels 30 rfl) (by decide) (fun c => ?_) (fun c => ?_)
  · have k := k.1 c
    refine Ev.lload 5 (am_dt kX9_levels 59 rfl) rfl ?_
    exact Ev.lret (am_dt kX9_levels 60 rfl) rfl k
  · have k := k.2 c
    refine Ev.lload 4 (am_dt kX9_levels 31 rfl) rfl ?_
    refine Ev.lload 3 (am_dt kX9_levels 32 rfl) rfl ?_
    refine Ev.lmul (am_dt kX9_levels 33 rfl) ?_
    refine Ev.lstore (lv' := [(7, .long (y7 * y5)), (1, .int x1), (2, .int x2), (3, .long y3), (5, .long y5), (9, .long y9), (11, .int x11)]) (am_dt kX9_levels 34 rfl) (by decide) rfl ?_
    refine Ev.iload 6 (am_dt kX9_levels 35 rfl) rfl ?_
    refine Ev.callS (v := mX9_orders) (As := [.int x11]) (st := []) okX9_orders wd_509 wd_508 (am_dt kX9_levels 36 rfl) rfl rfl (Nat.le_of_ble_eq_true rfl) (Nat.le_of_ble_eq_true rfl) ?_
    refine EvM.mono k (fun r2 h1 k => ?_)
    obtain ⟨v3, rfl, k⟩ := k
    show Ev w _ _ _ 68 _ [.long v3] _ _
    refine Ev.lload 0 (am_dt kX9_levels 37 rfl) rfl ?_
    refine Ev.lmul (am_dt kX9_levels 38 rfl) ?_
    refine Ev.lstore (lv' := [(12, .long (v3 * (y7 * y5))), (7, .long (y7 * y5)), (1, .int x1), (2, .int x2), (3, .long y3), (5, .long y5), (9, .long y9), (11, .int x11)]) (am_dt kX9_levels 39 rfl) (by decide) rfl ?_
    refine Ev.lload 6 (am_dt kX9_levels 40 rfl) rfl ?_
    refine Ev.lload_n 4 (am_dt kX9_levels 41 rfl) rfl rfl ?_
    refine Ev.lmul (am_dt kX9_levels 42 rfl) ?_
    refine Ev.lload_n 4 (am_dt kX9_levels 43 rfl) rfl rfl ?_
    refine Ev.lmul (am_dt kX9_levels 44 rfl) ?_
    refine Ev.iload_n 3 (am_dt kX9_levels 45 rfl) rfl rfl ?_
    refine Ev.if_eq (tgt := 94) (am_dt kX9_levels 46 rfl) (by decide) (fun c => ?_) (fun c => ?_)
    · have k := k.1 c
      refine Ev.lload 0 (am_dt kX9_levels 54 rfl) rfl ?_
      refine Ev.ladd (am_dt kX9_levels 55 rfl) ?_
      refine Ev.lstore (lv' := [(9, .long (((y9 * y3) * y3) + (v3 * (y7 * y5)))), (12, .long (v3 * (y7 * y5))), (7, .long (y7 * y5)), (1, .int x1), (2, .int x2), (3, .long y3), (5, .long y5), (11, .int x11)]) (am_dt kX9_levels 56 rfl) (by decide) rfl ?_
      refine Ev.iinc (v := x11 + 1) (lv' := [(11, .int (x11 + 1)), (9, .long (((y9 * y3) * y3) + (v3 * (y7 * y5)))), (12, .long (v3 * (y7 * y5))), (7, .long (y7 * y5)), (1, .int x1), (2, .int x2), (3, .long y3), (5, .long y5)]) 7 (am_dt kX9_levels 57 rfl) rfl rfl (by decide) rfl ?_
      refine Ev.goto (tgt := 48) (am_dt kX9_levels 58 rfl) (by decide) ?_
      exact Ev.sub [4, 5, 6, 7, 3, 1, 0] rfl k
    · have k := k.2 c
      refine Ev.iconst (v := 2) (am_dt kX9_levels 47 rfl) (by decide) ?_
      refine Ev.iload 7 (am_dt kX9_levels 48 rfl) rfl ?_
      refine Ev.imul (am_dt kX9_levels 49 rfl) ?_
      refine Ev.i2l (am_dt kX9_levels 50 rfl) ?_
      refine Ev.lload 0 (am_dt kX9_levels 51 rfl) rfl ?_
      refine Ev.lmul (am_dt kX9_levels 52 rfl) ?_
      refine Ev.goto (tgt := 96) (am_dt kX9_levels 53 rfl) (by decide) ?_
      refine Ev.ladd (am_dt kX9_levels 55 rfl) ?_
      refine Ev.lstore (lv' := [(9, .long (((y9 * y3) * y3) + ((Int32.toInt64 (2 * x11)) * (v3 * (y7 * y5))))), (12, .long (v3 * (y7 * y5))), (7, .long (y7 * y5)), (1, .int x1), (2, .int x2), (3, .long y3), (5, .long y5), (11, .int x11)]) (am_dt kX9_levels 56 rfl) (by decide) rfl ?_
      refine Ev.iinc (v := x11 + 1) (lv' := [(11, .int (x11 + 1)), (9, .long (((y9 * y3) * y3) + ((Int32.toInt64 (2 * x11)) * (v3 * (y7 * y5))))), (12, .long (v3 * (y7 * y5))), (7, .long (y7 * y5)), (1, .int x1), (2, .int x2), (3, .long y3), (5, .long y5)]) 7 (am_dt kX9_levels 57 rfl) rfl rfl (by decide) rfl ?_
      refine Ev.goto (tgt := 48) (am_dt kX9_levels 58 rfl) (by decide) ?_
      exact Ev.sub [4, 5, 6, 7, 3, 1, 0] rfl k
