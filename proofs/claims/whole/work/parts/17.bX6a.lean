set_option maxRecDepth 20000 in
set_option maxHeartbeats 2000000 in
theorem bX6_init_0 {w : am_W} {d : Nat} {h : am_H} {Q : Option Value → am_H → Prop} {a0 : Nat}  (k : ∀ h1 : am_H, h1 = nO h 2 6 → (EvM w mX2_init d [.ref (hZ h), .int 16] h1 (fun r3 h2 => r3 = none ∧ ((hK h2 a0 = 6) ∧ ((hZ h ≠ 0) ∧ (∀ h6 : am_H, h6 = sR h2 a0 0 (hZ h) → (∀ h7 : am_H, h7 = nA h6 12 16 → ((hK h7 a0 = 6) ∧ ((hZ h6 ≠ 0) ∧ (∀ h10 : am_H, h10 = sR h7 a0 1 (hZ h6) → (∀ h11 : am_H, h11 = nA h10 12 16 → ((hK h11 a0 = 6) ∧ ((hZ h10 ≠ 0) ∧ (∀ h14 : am_H, h14 = sR h11 a0 2 (hZ h10) → (∀ h15 : am_H, h15 = nA h14 12 8 → ((hK h15 a0 = 6) ∧ ((hZ h14 ≠ 0) ∧ (∀ h18 : am_H, h18 = sR h15 a0 3 (hZ h14) → (∀ h19 : am_H, h19 = nA h18 12 5 → ((hK h19 a0 = 6) ∧ ((hZ h18 ≠ 0) ∧ (∀ h22 : am_H, h22 = sR h19 a0 4 (hZ h18) → (∀ h23 : am_H, h23 = nA h22 12 0 → ((hK h23 a0 = 6) ∧ ((hZ h22 ≠ 0) ∧ (∀ h26 : am_H, h26 = sR h23 a0 5 (hZ h22) → (∀ h27 : am_H, h27 = sI h26 a0 6 40 → (∀ h28 : am_H, h28 = sI h27 a0 7 10 → (∀ h29 : am_H, h29 = sI h28 a0 8 1 → (∀ h30 : am_H, h30 = sI h29 a0 9 1 → (∀ h31 : am_H, h31 = sI h30 a0 10 2 → (∀ h32 : am_H, h32 = sI h31 a0 11 50 → (Q none h32))))))))))))))))))))))))))))))))) : EvM w mX6_init (d + 1) [.ref a0] h Q := by
  show Ev w (am_Z w) mX6_init (d + 1) 0 [(0, .ref a0)] [] h Q
  refine Ev.aload_n 0 (am_dt kX6_init 0 rfl) rfl rfl ?_
  refine Ev.objI wd_44 wd_2 wd_3 (am_dt kX6_init 1 rfl) (Nat.le_of_ble_eq_true rfl) ?_
  refine Ev.aload_n 0 (am_dt kX6_init 2 rfl) rfl rfl ?_
  refine Ev.newO' (ci := 2) (am_dt kX6_init 3 rfl) (by decide) wd_59 wd_60 wd_61 (fun h1 eh1 => ?_)
  have k := k h1 eh1
  refine Ev.dup (am_dt kX6_init 4 rfl) rfl ?_
  refine Ev.bipush (v := 16) (am_dt kX6_init 5 rfl) (by decide) ?_
  refine Ev.callI (v := mX2_init) (As := [.int 16]) (st := [.ref (hZ h), .ref a0]) okX2_init wd_46 rfl rfl wd_45 (am_dt kX6_init 6 rfl) rfl rfl (Nat.le_of_ble_eq_true rfl) (Nat.le_of_ble_eq_true rfl) ?_
  refine EvM.mono k (fun r3 h2 k => ?_)
  obtain ⟨rfl, k⟩ := k
  show Ev w _ _ _ 14 _ [.ref (hZ h), .ref a0] _ _
  obtain ⟨f4, k⟩ := k
  obtain ⟨f5, k⟩ := k
  refine Ev.putRF' (ci := 6) (k := 0) (am_dt kX6_init 7 rfl) (by decide) (by decide) wd_47 rfl rfl rfl rfl rfl rfl f5 f4 (fun h6 eh6 => ?_)
  have k := k h6 eh6
  have f4 := kR eh6 f4
  refine Ev.aload_n 0 (am_dt kX6_init 8 rfl) rfl rfl ?_
  refine Ev.bipush (v := 16) (am_dt kX6_init 9 rfl) (by decide) ?_
  refine Ev.newI' (n := 16) (N := 16) (am_dt kX6_init 10 rfl) wd_9 (by decide) (by decide) (by decide) (fun h7 eh7 => ?_)
  have k := k h7 eh7
  obtain ⟨f8, k⟩ := k
  obtain ⟨f9, k⟩ := k
  refine Ev.putRF' (ci := 6) (k := 1) (am_dt kX6_init 11 rfl) (by decide) (by decide) wd_48 rfl rfl rfl rfl rfl rfl f9 f8 (fun h10 eh10 => ?_)
  have k := k h10 eh10
  have f8 := kR eh10 f8
  refine Ev.aload_n 0 (am_dt kX6_init 12 rfl) rfl rfl ?_
  refine Ev.bipush (v := 16) (am_dt kX6_init 13 rfl) (by decide) ?_
  refine Ev.newI' (n := 16) (N := 16) (am_dt kX6_init 14 rfl) wd_9 (by decide) (by decide) (by decide) (fun h11 eh11 => ?_)
  have k := k h11 eh11
  obtain ⟨f12, k⟩ := k
  obtain ⟨f13, k⟩ := k
  refine Ev.putRF' (ci := 6) (k := 2) (am_dt kX6_init 15 rfl) (by decide) (by decide) wd_49 rfl rfl rfl rfl rfl rfl f13 f12 (fun h14 eh14 => ?_)
  have k := k h14 eh14
  have f12 := kR eh14 f12
  refine Ev.aload_n 0 (am_dt kX6_init 16 rfl) rfl rfl ?_
  refine Ev.bipush (v := 8) (am_dt kX6_init 17 rfl) (by decide) ?_
  refine Ev.newI' (n := 8) (N := 8) (am_dt kX6_init 18 rfl) wd_9 (by decide) (by decide) (by decide) (fun h15 eh15 => ?_)
  have k := k h15 eh15
  obtain ⟨f16, k⟩ := k
  obtain ⟨f17, k⟩ := k
  refine Ev.putRF' (ci := 6) (k := 3) (am_dt kX6_init 19 rfl) (by decide) (by decide) wd_50 rfl rfl rfl rfl rfl rfl f17 f16 (fun h18 eh18 => ?_)
  have k := k h18 eh18
  have f16 := kR eh18 f16
  refine Ev.aload_n 0 (am_dt kX6_init 20 rfl) rfl rfl ?_
  refine Ev.iconst (v := 5) (am_dt kX6_init 21 rfl) (by decide) ?_
  refine Ev.newI' (n := 5) (N := 5) (am_dt kX6_init 22 rfl) wd_9 (by decide) (by decide) (by decide) (fun h19 eh19 => ?_)
  have k := k h19 eh19
  obtain ⟨f20, k⟩ := k
  obtain ⟨f21, k⟩ := k
  refine Ev.putRF' (ci := 6) (k := 4) (am_dt kX6_init 23 rfl) (by decide) (by decide) wd_51 rfl rfl rfl rfl rfl rfl f21 f20 (fun h22 eh22 => ?_)
  have k := k h22 eh22
  have f20 := kR eh22 f20
  refine Ev.aload_n 0 (am_dt kX6_init 24 rfl) rfl rfl ?_
  refine Ev.iconst (v := 0) (am_dt kX6_init 25 rfl) (by decide) ?_
  refine Ev.newI' (n := 0) (N := 0) (am_dt kX6_init 26 rfl) wd_9 (by decide) (by decide) (by decide) (fun h23 eh23 => ?_)
  have k := k h23 eh23
  obtain ⟨f24, k⟩ := k
  obtain ⟨f25, k⟩ := k
  refine Ev.putR' (ci := 6) (k := 5) (am_dt kX6_init 27 rfl) (by decide) (by decide) wd_52 rfl rfl rfl rfl f25 f24 (fun h26 eh26 => ?_)
  have k := k h26 eh26
  have f24 := kR eh26 f24
  refine Ev.aload_n 0 (am_dt kX6_init 28 rfl) rfl rfl ?_
  refine Ev.bipush (v := 40) (am_dt kX6_init 29 rfl) (by decide) ?_
  refine Ev.putI' (ci := 6) (k := 6) (am_dt kX6_init 30 rfl) (by decide) (by decide) wd_53 rfl rfl rfl rfl f24 (fun h27 eh27 => ?_)
  have k := k h27 eh27
  have f24 := kI eh27 f24
  refine Ev.aload_n 0 (am_dt kX6_init 31 rfl) rfl rfl ?_
  refine Ev.bipush (v := 10) (am_dt kX6_init 32 rfl) (by decide) ?_
  refine Ev.putI' (ci := 6) (k := 7) (am_dt kX6_init 33 rfl) (by decide) (by decide) wd_54 rfl rfl rfl rfl f24 (fun h28 eh28 => ?_)
  have k := k h28 eh28
  have f24 := kI eh28 f24
  refine Ev.aload_n 0 (am_dt kX6_init 34 rfl) rfl rfl ?_
  refine Ev.iconst (v := 1) (am_dt kX6_init 35 rfl) (by decide) ?_
  refine Ev.putI' (ci := 6) (k := 8) (am_dt kX6_init 36 rfl) (by decide) (by decide) wd_55 rfl rfl rfl rfl f24 (fun h29 eh29 => ?_)
  have k := k h29 eh29
  have f24 := kI eh29 f24
  refine Ev.aload_n 0 (am_dt kX6_init 37 rfl) rfl rfl ?_
  refine Ev.iconst (v := 1) (am_dt kX6_init 38 rfl) (by decide) ?_
  refine Ev.putI' (ci := 6) (k := 9) (am_dt kX6_init 39 rfl) (by decide) (by decide) wd_56 rfl rfl rfl rfl f24 (fun h30 eh30 => ?_)
  have k := k h30 eh30
  have f24 := kI eh30 f24
  refine Ev.aload_n 0 (am_dt kX6_init 40 rfl) rfl rfl ?_
  refine Ev.iconst (v := 2) (am_dt kX6_init 41 rfl) (by decide) ?_
  refine Ev.putI' (ci := 6) (k := 10) (am_dt kX6_init 42 rfl) (by decide) (by decide) wd_57 rfl rfl rfl rfl f24 (fun h31 eh31 => ?_)
  have k := k h31 eh31
  have f24 := kI eh31 f24
  refine Ev.aload_n 0 (am_dt kX6_init 43 rfl) rfl rfl ?_
  refine Ev.bipush (v := 50) (am_dt kX6_init 44 rfl) (by decide) ?_
  refine Ev.putI' (ci := 6) (k := 11) (am_dt kX6_init 45 rfl) (by decide) (by decide) wd_58 rfl rfl rfl rfl f24 (fun h32 eh32 => ?_)
  have k := k h32 eh32
  have f24 := kI eh32 f24
  exact Ev.vret (am_dt kX6_init 46 rfl) rfl k
set_option maxRecDepth 20000 in
set_option maxHeartbeats 2000000 in
theorem bX6_addPerson_0 {w : am_W} {d : Nat} {h : am_H} {Q : Option Value → am_H → Prop} {a0 : Nat} {x1 : Int32} {x2 : Int32} {x3 : Int32} {x4 : Int32} {x5 : Int32}  (k : (am_L 6 a0 h) ∧ ((am_L 2 (a0 + 1) h) ∧ (EvM w mX9_set d [.ref (a0 + 8), .int (hI h (a0 + 1) 5), .int x1] h (fun r4 h3 => r4 = none ∧ ((am_L 6 a0 h3) ∧ (EvM w mX9_set d [.ref (a0 + 7), .int (hI h (a0 + 1) 5), .int x5] h3 (fun r7 h6 => r7 = none ∧ ((am_L 6 a0 h6) ∧ (EvM w mX6_countOf d [.int x1] h6 (fun r10 h9 => ∃ v11 : Int32, r10 = some (.int v11) ∧ ((am_L 2 (a0 + 1) h9) ∧ (EvM w mX2_add d [.ref (a0 + 1), .int x3, .int x2, .int x4, .int v11] h9 (fun r14 h13 => r14 = none ∧ ((x1 = 86 → ((am_L 6 a0 h13) ∧ (EvM w mX9_set d [.ref (a0 + 9), .int (hI h13 a0 12), .int (hI h (a0 + 1) 5)] h13 (fun r17 h16 => r17 = none ∧ ((am_L 6 a0 h16) ∧ (∀ h19 : am_H, h19 = sI h16 a0 12 ((hI h16 a0 12) + 1) → (Q none h19))))))) ∧ (¬ x1 = 86 → (Q none h13)))))))))))))))) : EvM w mX6_addPerson (d + 1) [.ref a0, .int x1, .int x2, .int x3, .int x4, .int x5] h Q := by
  show Ev w (am_Z w) mX6_addPerson (d + 1) 0 [(0, .ref a0), (1, .int x1), (2, .int x2), (3, .int x3), (4, .int x4), (5, .int x5)] [] h Q
  refine Ev.aload_n 0 (am_dt kX6_addPerson 0 rfl) rfl rfl ?_
  obtain ⟨f1, k⟩ := k
  refine Ev.getRe (ci := 6) (k := 0) (r := a0 + 1) (am_dt kX6_addPerson 1 rfl) (by decide) (by decide) rfl wd_47 f1.1 (am_L.r f1 0 rfl) (by omega) ?_
  obtain ⟨f2, k⟩ := k
  refine Ev.getI (ci := 2) (k := 5) (am_dt kX6_addPerson 2 rfl) (by decide) (by decide) rfl wd_62 f2.1 ?_
  refine Ev.istore (lv' := [(6, .int (hI h (a0 + 1) 5)), (0, .ref a0), (1, .int x1), (2, .int x2), (3, .int x3), (4, .int x4), (5, .int x5)]) (am_dt kX6_addPerson 3 rfl) (by decide) rfl ?_
  refine Ev.aload_n 1 (am_dt kX6_addPerson 4 rfl) rfl rfl ?_
  refine Ev.getRe (ci := 6) (k := 2) (r := a0 + 8) (am_dt kX6_addPerson 5 rfl) (by decide) (by decide) rfl wd_49 f1.1 (am_L.r f1 2 rfl) (by omega) ?_
  refine Ev.iload 0 (am_dt kX6_addPerson 6 rfl) rfl ?_
  refine Ev.iload_n 2 (am_dt kX6_addPerson 7 rfl) rfl rfl ?_
  refine Ev.callSN (v := mX9_set) (As := [.ref (a0 + 8), .int (hI h (a0 + 1) 5), .int x1]) (st := []) okX9_set wd_16 wd_63 (am_dt kX6_addPerson 8 rfl) rfl rfl (Nat.le_of_ble_eq_true rfl) (Nat.le_of_ble_eq_true rfl) ?_
  refine EvM.mono k (fun r4 h3 k => ?_)
  obtain ⟨rfl, k⟩ := k
  show Ev w _ _ _ 19 _ [] _ _
  refine Ev.aload_n 1 (am_dt kX6_addPerson 9 rfl) rfl rfl ?_
  obtain ⟨f5, k⟩ := k
  refine Ev.getRe (ci := 6) (k := 1) (r := a0 + 7) (am_dt kX6_addPerson 10 rfl) (by decide) (by decide) rfl wd_48 f5.1 (am_L.r f5 1 rfl) (by omega) ?_
  refine Ev.iload 0 (am_dt kX6_addPerson 11 rfl) rfl ?_
  refine Ev.iload 6 (am_dt kX6_addPerson 12 rfl) rfl ?_
  refine Ev.callSN (v := mX9_set) (As := [.ref (a0 + 7), .int (hI h (a0 + 1) 5), .int x5]) (st := []) okX9_set wd_16 wd_63 (am_dt kX6_addPerson 13 rfl) rfl rfl (Nat.le_of_ble_eq_true rfl) (Nat.le_of_ble_eq_true rfl) ?_
  refine EvM.mono k (fun r7 h6 k => ?_)
  obtain ⟨rfl, k⟩ := k
  show Ev w _ _ _ 30 _ [] _ _
  refine Ev.aload_n 1 (am_dt kX6_addPerson 14 rfl) rfl rfl ?_
  obtain ⟨f8, k⟩ := k
  refine Ev.getRe (ci := 6) (k := 0) (r := a0 + 1) (am_dt kX6_addPerson 15 rfl) (by decide) (by decide) rfl wd_47 f8.1 (am_L.r f8 0 rfl) (by omega) ?_
  refine Ev.iload_n 4 (am_dt kX6_addPerson 16 rfl) rfl rfl ?_
  refine Ev.iload_n 3 (am_dt kX6_addPerson 17 rfl) rfl rfl ?_
  refine Ev.iload 5 (am_dt kX6_addPerson 18 rfl) rfl ?_
  refine Ev.iload_n 2 (am_dt kX6_addPerson 19 rfl) rfl rfl ?_
  refine Ev.callS (v := mX6_countOf) (As := [.int x1]) (st := [.int x4, .int x2, .int x3, .ref (a0 + 1)]) okX6_countOf wd_65 wd_64 (am_dt kX6_addPerson 20 rfl) rfl rfl (Nat.le_of_ble_eq_true rfl) (Nat.le_of_ble_eq_true rfl) ?_
  refine EvM.mono k (fun r10 h9 k => ?_)
  obtain ⟨v11, rfl, k⟩ := k
  show Ev w _ _ _ 42 _ [.int v11, .int x4, .int x2, .int x3, .ref (a0 + 1)] _ _
  obtain ⟨f12, k⟩ := k
  refine Ev.callV (ci := 2) (v := mX2_add) (As := [.int x3, .int x2, .int x4, .int v11]) (st := []) okX2_add wd_66 wd_67 wd_68 (am_dt kX6_addPerson 21 rfl) (by decide) rfl rfl (Nat.le_of_ble_eq_true rfl) (Nat.le_of_ble_eq_true rfl) f12.1 ?_
  refine EvM.mono k (fun r14 h13 k => ?_)
  obtain ⟨rfl, k⟩ := k
  show Ev w _ _ _ 45 _ [] _ _
  refine Ev.iload_n 2 (am_dt kX6_addPerson 22 rfl) rfl rfl ?_
  refine Ev.bipush (v := 86) (am_dt kX6_addPerson 23 rfl) (by decide) ?_
  refine Ev.icmp_ne (tgt := 74) (am_dt kX6_addPerson 24 rfl) (by decide) (fun c => ?_) (fun c => ?_)
  · have k := k.2 c
    exact Ev.vret (am_dt kX6_addPerson 37 rfl) rfl k
  · have k := k.1 c
    refine Ev.aload_n 1 (am_dt kX6_addPerson 25 rfl) rfl rfl ?_
    obtain ⟨f15, k⟩ := k
    refine Ev.getRe (ci := 6) (k := 3) (r := a0 + 9) (am_dt kX6_addPerson 26 rfl) (by decide) (by decide) rfl wd_50 f15.1 (am_L.r f15 3 rfl) (by omega) ?_
    refine Ev.aload_n 1 (am_dt kX6_addPerson 27 rfl) rfl rfl ?_
    refine Ev.getI (ci := 6) (k := 12) (am_dt kX6_addPerson 28 rfl) (by decide) (by decide) rfl wd_69 f15.1 ?_
    refine Ev.iload 0 (am_dt kX6_addPerson 29 rfl) rfl ?_
    refine Ev.callSN (v := mX9_set) (As := [.ref (a0 + 9), .int (hI h13 a0 12), .int (hI h (a0 + 1) 5)]) (st := []) okX9_set wd_16 wd_63 (am_dt kX6_addPerson 30 rfl) rfl rfl (Nat.le_of_ble_eq_true rfl) (Nat.le_of_ble_eq_true rfl) ?_
    refine EvM.mono k (fun r17 h16 k => ?_)
    obtain ⟨rfl, k⟩ := k
    show Ev w _ _ _ 64 _ [] _ _
    refine Ev.aload_n 1 (am_dt kX6_addPerson 31 rfl) rfl rfl ?_
    refine Ev.dup (am_dt kX6_addPerson 32 rfl) rfl ?_
    obtain ⟨f18, k⟩ := k
    refine Ev.getI (ci := 6) (k := 12) (am_dt kX6_addPerson 33 rfl) (by decide) (by decide) rfl wd_69 f18.1 ?_
    refine Ev.iconst (v := 1) (am_dt kX6_addPerson 34 rfl) (by decide) ?_
    refine Ev.iadd (am_dt kX6_addPerson 35 rfl) ?_
    refine Ev.putI' (ci := 6) (k := 12) (am_dt kX6_addPerson 36 rfl) (by decide) (by decide) wd_69 rfl rfl rfl rfl f18.1 (fun h19 eh19 => ?_)
    have k := k h19 eh19
    have f18 := am_LsI eh19 f18
    exact Ev.vret (am_dt kX6_addPerson 37 rfl) rfl k
set_option maxRecDepth 20000 in
set_option maxHeartbeats 2000000 in
theorem bX6_countOf_0 {w : am_W} {d : Nat} {h : am_H} {Q : Option Value → am_H → Prop} {x0 : Int32}  (k : (x0 = 82 → (Q (some (.int 0)) h)) ∧ (¬ x0 = 82 → ((x0 = 83 → (Q (some (.int 1)) h)) ∧ (¬ x0 = 83 → ((x0 = 84 → (Q (some (.int 4)) h)) ∧ (¬ x0 = 84 → (Q (some (.int 2)) h))))))) : EvM w mX6_countOf d [.int x0] h Q := by
  show Ev w (am_Z w) mX6_countOf d 0 [(0, .int x0)] [] h Q
  refine Ev.iload_n 0 (am_dt kX6_countOf 0 rfl) rfl rfl ?_
  by_cases c : x0 = 82
  · refine Ev.tableIn (off := 27) (tgt := 28) (am_dt kX6_countOf 1 rfl) (by rw [c]; decide) (by rw [c]; decide) (by rw [c]; rfl) (by decide) ?_
    have k := k.1 c
    refine Ev.iconst (v := 0) (am_dt kX6_countOf 2 rfl) (by decide) ?_
    exact Ev.iret .int (am_dt kX6_countOf 3 rfl) rfl rfl k
  have k := k.2 c
  have c82 := am_ne (n := 82) (by decide) c
  clear c
  by_cases c : x0 = 83
  · refine Ev.tableIn (off := 29) (tgt := 30) (am_dt kX6_countOf 1 rfl) (by rw [c]; decide) (by rw [c]; decide) (by rw [c]; rfl) (by decide) ?_
    have k := k.1 c
    refine Ev.iconst (v := 1) (am_dt kX6_countOf 4 rfl) (by decide) ?_
    exact Ev.iret .int (am_dt kX6_countOf 5 rfl) rfl rfl k
  have k := k.2 c
  have c83 := am_ne (n := 83) (by decide) c
  clear c
  by_cases c : x0 = 84
  · refine Ev.tableIn (off := 31) (tgt := 32) (am_dt kX6_countOf 1 rfl) (by rw [c]; decide) (by rw [c]; decide) (by rw [c]; rfl) (by decide) ?_
    have k := k.1 c
    refine Ev.iconst (v := 4) (am_dt kX6_countOf 6 rfl) (by decide) ?_
    exact Ev.iret .int (am_dt kX6_countOf 7 rfl) rfl rfl k
  have k := k.2 c
  have c84 := am_ne (n := 84) (by decide) c
  clear c
  refine Ev.tableOut (tgt := 34) (am_dt kX6_countOf 1 rfl) (by omega) (by decide) ?_
  refine Ev.iconst (v := 2) (am_dt kX6_countOf 8 rfl) (by decide) ?_
  exact Ev.iret .int (am_dt kX6_countOf 9 rfl) rfl rfl k
set_option maxRecDepth 20000 in
set_option maxHeartbeats 2000000 in
theorem bX6_endLaw_0 {w : am_W} {d : Nat} {h : am_H} {Q : Option Value → am_H → Prop} {a0 : Nat} {x1 : Int32}  (k : (am_L 6 a0 h) ∧ (∀ h2 : am_H, h2 = sI h a0 13 ((hI h a0 13) + 1) → (EvM w mX9_set d [.ref (a0 + 10), .int (hI h2 a0 13), .int x1] h2 (fun r4 h3 => r4 = none ∧ (Q none h3))))) : EvM w mX6_endLaw (d + 1) [.ref a0, .int x1] h Q := by
  show Ev w (am_Z w) mX6_endLaw (d + 1) 0 [(0, .ref a0), (1, .int x1)] [] h Q
  refine Ev.aload_n 0 (am_dt kX6_endLaw 0 rfl) rfl rfl ?_
  refine Ev.dup (am_dt kX6_endLaw 1 rfl) rfl ?_
  obtain ⟨f1, k⟩ := k
  refine Ev.getI (ci := 6) (k := 13) (am_dt kX6_endLaw 2 rfl) (by decide) (by decide) rfl wd_70 f1.1 ?_
  refine Ev.iconst (v := 1) (am_dt kX6_endLaw 3 rfl) (by decide) ?_
  refine Ev.iadd (am_dt kX6_endLaw 4 rfl) ?_
  refine Ev.putI' (ci := 6) (k := 13) (am_dt kX6_endLaw 5 rfl) (by decide) (by decide) wd_70 rfl rfl rfl rfl f1.1 (fun h2 eh2 => ?_)
  have k := k h2 eh2
  have f1 := am_LsI eh2 f1
  refine Ev.aload_n 0 (am_dt kX6_endLaw 6 rfl) rfl rfl ?_
  refine Ev.getRe (ci := 6) (k := 4) (r := a0 + 10) (am_dt kX6_endLaw 7 rfl) (by decide) (by decide) rfl wd_51 f1.1 (am_L.r f1 4 rfl) (by omega) ?_
  refine Ev.aload_n 0 (am_dt kX6_endLaw 8 rfl) rfl rfl ?_
  refine Ev.getI (ci := 6) (k := 13) (am_dt kX6_endLaw 9 rfl) (by decide) (by decide) rfl wd_70 f1.1 ?_
  refine Ev.iload_n 1 (am_dt kX6_endLaw 10 rfl) rfl rfl ?_
  refine Ev.callSN (v := mX9_set) (As := [.ref (a0 + 10), .int (hI h2 a0 13), .int x1]) (st := []) okX9_set wd_16 wd_63 (am_dt kX6_endLaw 11 rfl) rfl rfl (Nat.le_of_ble_eq_true rfl) (Nat.le_of_ble_eq_true rfl) ?_
  refine EvM.mono k (fun r4 h3 k => ?_)
  obtain ⟨rfl, k⟩ := k
  show Ev w _ _ _ 22 _ [] _ _
  exact Ev.vret (am_dt kX6_endLaw 12 rfl) rfl k
set_option maxRecDepth 20000 in
set_option maxHeartbeats 2000000 in
theorem bX6_isTimed_0 {w : am_W} {d : Nat} {h : am_H} {Q : Option Value → am_H → Prop} {a0 : Nat} {x1 : Int32}  (k : (x1 < 0 → (Q (some (.int 0)) h)) ∧ (¬ x1 < 0 → ((am_L 6 a0 h) ∧ (((((hI h a0 14) >>> (x1 &&& 31)) &&& 1) = 0 → (Q (some (.int 0)) h)) ∧ (¬ (((hI h a0 14) >>> (x1 &&& 31)) &&& 1) = 0 → (Q (some (.int 1)) h)))))) : EvM w mX6_isTimed d [.ref a0, .int x1] h Q := by
  show Ev w (am_Z w) mX6_isTimed d 0 [(0, .ref a0), (1, .int x1)] [] h Q
  refine Ev.iload_n 1 (am_dt kX6_isTimed 0 rfl) rfl rfl ?_
  refine Ev.if_lt (tgt := 19) (am_dt kX6_isTimed 1 rfl) (by decide) (fun c => ?_) (fun c => ?_)
  · have k := k.1 c
    refine Ev.iconst (v := 0) (am_dt kX6_isTimed 11 rfl) (by decide) ?_
    exact Ev.iret .boolean (am_dt kX6_isTimed 12 rfl) rfl rfl k
  · have k := k.2 c
    refine Ev.aload_n 0 (am_dt kX6_isTimed 2 rfl) rfl rfl ?_
    obtain ⟨f1, k⟩ := k
    refine Ev.getI (ci := 6) (k := 14) (am_dt kX6_isTimed 3 rfl) (by decide) (by decide) rfl wd_71 f1.1 ?_
    refine Ev.iload_n 1 (am_dt kX6_isTimed 4 rfl) rfl rfl ?_
    refine Ev.ishr (am_dt kX6_isTimed 5 rfl) ?_
    refine Ev.iconst (v := 1) (am_dt kX6_isTimed 6 rfl) (by decide) ?_
    refine Ev.iand (am_dt kX6_isTimed 7 rfl) ?_
    refine Ev.if_eq (tgt := 19) (am_dt kX6_isTimed 8 rfl) (by decide) (fun c => ?_) (fun c => ?_)
    · have k := k.1 c
      refine Ev.iconst (v := 0) (am_dt kX6_isTimed 11 rfl) (by decide) ?_
      exact Ev.iret .boolean (am_dt kX6_isTimed 12 rfl) rfl rfl k
    · have k := k.2 c
      refine Ev.iconst (v := 1) (am_dt kX6_isTimed 9 rfl) (by decide) ?_
      refine Ev.goto (tgt := 20) (am_dt kX6_isTimed 10 rfl) (by decide) ?_
      exact Ev.iret .boolean (am_dt kX6_isTimed 12 rfl) rfl rfl k
set_option maxRecDepth 20000 in
set_option maxHeartbeats 2000000 in
theorem bX6_lawValue_0 {w : am_W} {d : Nat} {h : am_H} {Q : Option Value → am_H → Prop} {a0 : Nat} {x1 : Int32} {a2 : Nat} {a3 : Nat}  (k : (x1 = ((-1)) → (EvM w mX9_get d [.ref a2, .int 0] h (fun r2 h1 => ∃ v3 : Int32, r2 = some (.int v3) ∧ (EvM w mX9_get d [.ref a2, .int 1] h1 (fun r5 h4 => ∃ v6 : Int32, r5 = some (.int v6) ∧ ((v3 = v6 → (EvM w mX9_get d [.ref a2, .int 0] h4 (fun r8 h7 => ∃ v9 : Int32, r8 = some (.int v9) ∧ ((v9 ≤ 0 → (Q (some (.int 0)) h7)) ∧ (¬ v9 ≤ 0 → (Q (some (.int 1)) h7)))))) ∧ (¬ v3 = v6 → (Q (some (.int 0)) h4)))))))) ∧ (¬ x1 = ((-1)) → ((am_L 6 a0 h) ∧ (EvM w mX9_get d [.ref (a0 + 10), .int (x1 + 1)] h (fun r12 h11 => ∃ v13 : Int32, r12 = some (.int v13) ∧ ((am_L 6 a0 h11) ∧ ((hR h11 a0 5 ≠ 0) ∧ ((hK h11 (hR h11 a0 5) = 12) ∧ (EvM w mX9_get d [.ref (a0 + 10), .int x1] h11 (fun r18 h17 => ∃ v19 : Int32, r18 = some (.int v19) ∧ (Ev w (am_Z w) mX6_lawValue (d + 1) 70 [(0, .ref a0), (2, .ref a2), (3, .ref a3), (4, .int 0), (5, .int (if (nI (hN h11 (hR h11 a0 5))) < v13 then (nI (hN h11 (hR h11 a0 5))) else v13)), (6, .int (if 0 < v19 then v19 else 0))] [] h17 Q))))))))))) : EvM w mX6_lawValue (d + 1) [.ref a0, .int x1, .ref a2, .ref a3] h Q := by
  show Ev w (am_Z w) mX6_lawValue (d + 1) 0 [(0, .ref a0), (1, .int x1), (2, .ref a2), (3, .ref a3)] [] h Q
  refine Ev.iload_n 1 (am_dt kX6_lawValue 0 rfl) rfl rfl ?_
  refine Ev.iconst (v := (-1)) (am_dt kX6_lawValue 1 rfl) (by decide) ?_
  refine Ev.icmp_ne (tgt := 33) (am_dt kX6_lawValue 2 rfl) (by decide) (fun c => ?_) (fun c => ?_)
  · have k := k.2 c
    refine Ev.iconst (v := 0) (am_dt kX6_lawValue 19 rfl) (by decide) ?_
    refine Ev.istore (lv' := [(4, .int 0), (0, .ref a0), (1, .int x1), (2, .ref a2), (3, .ref a3)]) (am_dt kX6_lawValue 20 rfl) (by decide) rfl ?_
    refine Ev.aload_n 1 (am_dt kX6_lawValue 21 rfl) rfl rfl ?_
    obtain ⟨f10, k⟩ := k
    refine Ev.getRe (ci := 6) (k := 4) (r := a0 + 10) (am_dt kX6_lawValue 22 rfl) (by decide) (by decide) rfl wd_51 f10.1 (am_L.r f10 4 rfl) (by omega) ?_
    refine Ev.iload_n 2 (am_dt kX6_lawValue 23 rfl) rfl rfl ?_
    refine Ev.iconst (v := 1) (am_dt kX6_lawValue 24 rfl) (by decide) ?_
    refine Ev.iadd (am_dt kX6_lawValue 25 rfl) ?_
    refine Ev.callSN (v := mX9_get) (As := [.ref (a0 + 10), .int (x1 + 1)]) (st := []) okX9_get wd_19 wd_72 (am_dt kX6_lawValue 26 rfl) rfl rfl (Nat.le_of_ble_eq_true rfl) (Nat.le_of_ble_eq_true rfl) ?_
    refine EvM.mono k (fun r12 h11 k => ?_)
    obtain ⟨v13, rfl, k⟩ := k
    show Ev w _ _ _ 46 _ [.int v13] _ _
    refine Ev.aload_n 1 (am_dt kX6_lawValue 27 rfl) rfl rfl ?_
    obtain ⟨f14, k⟩ := k
    obtain ⟨f15, k⟩ := k
    refine Ev.getR (ci := 6) (k := 5) (am_dt kX6_lawValue 28 rfl) (by decide) (by decide) rfl wd_52 f14.1 f15 ?_
    obtain ⟨f16, k⟩ := k
    refine Ev.alen 12 (am_dt kX6_lawValue 29 rfl) (by decide) (by decide) f16 ?_
    refine Ev.mmin wd_73 wd_74 wd_6 wd_75 (am_dt kX6_lawValue 30 rfl) (Nat.le_of_ble_eq_true rfl) ?_
    refine Ev.istore (lv' := [(5, .int (if (nI (hN h11 (hR h11 a0 5))) < v13 then (nI (hN h11 (hR h11 a0 5))) else v13)), (4, .int 0), (0, .ref a0), (1, .int x1), (2, .ref a2), (3, .ref a3)]) (am_dt kX6_lawValue 31 rfl) (by decide) rfl ?_
    refine Ev.iconst (v := 0) (am_dt kX6_lawValue 32 rfl) (by decide) ?_
    refine Ev.aload_n 2 (am_dt kX6_lawValue 33 rfl) rfl rfl ?_
    refine Ev.getRe (ci := 6) (k := 4) (r := a0 + 10) (am_dt kX6_lawValue 34 rfl) (by decide) (by decide) rfl wd_51 f14.1 (am_L.r f14 4 rfl) (by omega) ?_
    refine Ev.iload_n 3 (am_dt kX6_lawValue 35 rfl) rfl rfl ?_
    refine Ev.callSN (v := mX9_get) (As := [.ref (a0 + 10), .int x1]) (st := [.int 0]) okX9_get wd_19 wd_72 (am_dt kX6_lawValue 36 rfl) rfl rfl (Nat.le_of_ble_eq_true rfl) (Nat.le_of_ble_eq_true rfl) ?_
    refine EvM.mono k (fun r18 h17 k => ?_)
    obtain ⟨v19, rfl, k⟩ := k
    show Ev w _ _ _ 65 _ [.int v19, .int 0] _ _
    refine Ev.mmax wd_76 wd_5 wd_6 wd_7 (am_dt kX6_lawValue 37 rfl) (Nat.le_of_ble_eq_true rfl) ?_
    refine Ev.istore (lv' := [(6, .int (if 0 < v19 then v19 else 0)), (5, .int (if (nI (hN h11 (hR h11 a0 5))) < v13 then (nI (hN h11 (hR h11 a0 5))) else v13)), (4, .int 0), (0, .ref a0), (1, .int x1), (2, .ref a2), (3, .ref a3)]) (am_dt kX6_lawValue 38 rfl) (by decide) rfl ?_
    exact Ev.sub [3, 5, 6, 2, 1, 0] rfl k
  · have k := k.1 c
    refine Ev.aload_n 2 (am_dt kX6_lawValue 3 rfl) rfl rfl ?_
    refine Ev.iconst (v := 0) (am_dt kX6_lawValue 4 rfl) (by decide) ?_
    refine Ev.callSN (v := mX9_get) (As := [.ref a2, .int 0]) (st := []) okX9_get wd_19 wd_72 (am_dt kX6_lawValue 5 rfl) rfl rfl (Nat.le_of_ble_eq_true rfl) (Nat.le_of_ble_eq_true rfl) ?_
    refine EvM.mono k (fun r2 h1 k => ?_)
    obtain ⟨v3, rfl, k⟩ := k
    show Ev w _ _ _ 10 _ [.int v3] _ _
    refine Ev.aload_n 2 (am_dt kX6_lawValue 6 rfl) rfl rfl ?_
    refine Ev.iconst (v := 1) (am_dt kX6_lawValue 7 rfl) (by decide) ?_
    refine Ev.callSN (v := mX9_get) (As := [.ref a2, .int 1]) (st := [.int v3]) okX9_get wd_19 wd_72 (am_dt kX6_lawValue 8 rfl) rfl rfl (Nat.le_of_ble_eq_true rfl) (Nat.le_of_ble_eq_true rfl) ?_
    refine EvM.mono k (fun r5 h4 k => ?_)
    obtain ⟨v6, rfl, k⟩ := k
    show Ev w _ _ _ 15 _ [.int v6, .int v3] _ _
    refine Ev.icmp_ne (tgt := 31) (am_dt kX6_lawValue 9 rfl) (by decide) (fun c => ?_) (fun c => ?_)
    · have k := k.2 c
      refine Ev.iconst (v := 0) (am_dt kX6_lawValue 17 rfl) (by decide) ?_
      exact Ev.iret .int (am_dt kX6_lawValue 18 rfl) rfl rfl k
    · have k := k.1 c
      refine Ev.iconst (v := 0) (am_dt kX6_lawValue 10 rfl) (by decide) ?_
      refine Ev.aload_n 2 (am_dt kX6_lawValue 11 rfl) rfl rfl ?_
      refine Ev.iconst (v := 0) (am_dt kX6_lawValue 12 rfl) (by decide) ?_
      refine Ev.callSN (v := mX9_get) (As := [.ref a2, .int 0]) (st := [.int 0]) okX9_get wd_19 wd_72 (am_dt kX6_lawValue 13 rfl) rfl rfl (Nat.le_of_ble_eq_true rfl) (Nat.le_of_ble_eq_true rfl) ?_
      refine EvM.mono k (fun r8 h7 k => ?_)
      obtain ⟨v9, rfl, k⟩ := k
      show Ev w _ _ _ 24 _ [.int v9, .int 0] _ _
      refine Ev.icmp_ge (tgt := 31) (am_dt kX6_lawValue 14 rfl) (by decide) (fun c => ?_) (fun c => ?_)
      · have k := k.1 c
        refine Ev.iconst (v := 0) (am_dt kX6_lawValue 17 rfl) (by decide) ?_
        exact Ev.iret .int (am_dt kX6_lawValue 18 rfl) rfl rfl k
      · have k := k.2 c
        refine Ev.iconst (v := 1) (am_dt kX6_lawValue 15 rfl) (by decide) ?_
        refine Ev.goto (tgt := 32) (am_dt kX6_lawValue 16 rfl) (by decide) ?_
        exact Ev.iret .int (am_dt kX6_lawValue 18 rfl) rfl rfl k
set_option maxRecDepth 20000 in
set_option maxHeartbeats 2000000 in
theorem bX6_lawValue_70 {w : am_W} {d : Nat} {h : am_H} {Q : Option Value → am_H → Prop} {a0 : Nat} {a2 : Nat} {a3 : Nat} {x4 : Int32} {x5 : Int32} {x6 : Int32}  (k : (x5 ≤ x6 → (EvM w mX9_get d [.ref a3, .int 0] h (fun r2 h1 => ∃ v3 : Int32, r2 = some (.int v3) ∧ (Q (some (.int v3)) h1)))) ∧ (¬ x5 ≤ x6 → ((hK h a3 = 12) ∧ (((nI (hN h a3)) ≤ x4 → (EvM w mX9_get d [.ref a3, .int 0] h (fun r6 h5 => ∃ v7 : Int32, r6 = some (.int v7) ∧ (Q (some (.int v7)) h5)))) ∧ (¬ (nI (hN h a3)) ≤ x4 → ((am_L 6 a0 h) ∧ ((hR h a0 5 ≠ 0) ∧ ((hK h (hR h a0 5) = 12) ∧ ((vp_in x6 (hN h (hR h a0 5))) ∧ (((hI h (hR h a0 5) (Int32.toNatClampNeg x6)) < 0 → ((((-(hI h (hR h a0 5) (Int32.toNatClampNeg x6))) - 75) < 0 → (Ev w (am_Z w) mX6_lawValue (d + 1) 144 [(0, .ref a0), (2, .ref a2), (3, .ref a3), (4, .int x4), (5, .int x5), (6, .int x6), (7, .int (hI h (hR h a0 5) (Int32.toNatClampNeg x6)))] [] h Q)) ∧ (¬ ((-(hI h (hR h a0 5) (Int32.toNatClampNeg x6))) - 75) < 0 → ((hK h a2 = 12) ∧ (((nI (hN h a2)) ≤ ((-(hI h (hR h a0 5) (Int32.toNatClampNeg x6))) - 75) → (Ev w (am_Z w) mX6_lawValue (d + 1) 144 [(0, .ref a0), (2, .ref a2), (3, .ref a3), (4, .int x4), (5, .int x5), (6, .int x6), (7, .int (hI h (hR h a0 5) (Int32.toNatClampNeg x6)))] [] h Q)) ∧ (¬ (nI (hN h a2)) ≤ ((-(hI h (hR h a0 5) (Int32.toNatClampNeg x6))) - 75) → ((vp_in ((-(hI h (hR h a0 5) (Int32.toNatClampNeg x6))) - 75) (hN h a2)) ∧ ((vp_in x4 (hN h a3)) ∧ (∀ h15 : am_H, h15 = sI h a3 (Int32.toNatClampNeg x4) (hI h a2 (Int32.toNatClampNeg ((-(hI h (hR h a0 5) (Int32.toNatClampNeg x6))) - 75))) → (Ev w (am_Z w) mX6_lawValue (d + 1) 70 [(0, .ref a0), (2, .ref a2), (3, .ref a3), (4, .int (x4 + 1)), (5, .int x5), (6, .int (x6 + 1))] [] h15 Q)))))))))) ∧ (¬ (hI h (hR h a0 5) (Int32.toNatClampNeg x6)) < 0 → ((vp_in x4 (hN h a3)) ∧ (∀ h17 : am_H, h17 = sI h a3 (Int32.toNatClampNeg x4) (hI h (hR h a0 5) (Int32.toNatClampNeg x6)) → (Ev w (am_Z w) mX6_lawValue (d + 1) 70 [(0, .ref a0), (2, .ref a2), (3, .ref a3), (4, .int (x4 + 1)), (5, .int x5), (6, .int (x6 + 1))] [] h17 Q)))))))))))))) : Ev w (am_Z w) mX6_lawValue (d + 1) 70 [(0, .ref a0), (2, .ref a2), (3, .ref a3), (4, .int x4), (5, .int x5), (6, .int x6)] [] h Q := by
  refine Ev.iload 5 (am_dt kX6_lawValue 39 rfl) rfl ?_
  refine Ev.iload 4 (am_dt kX6_lawValue 40 rfl) rfl ?_
  refine Ev.icmp_ge (tgt := 217) (am_dt kX6_lawValue 41 rfl) (by decide) (fun c => ?_) (fun c => ?_)
  · have k := k.1 c
    refine Ev.aload_n 2 (am_dt kX6_lawValue 121 rfl) rfl rfl ?_
    refine Ev.iconst (v := 0) (am_dt kX6_lawValue 122 rfl) (by decide) ?_
    refine Ev.callSN (v := mX9_get) (As := [.ref a3, .int 0]) (st := []) okX9_get wd_19 wd_72 (am_dt kX6_lawValue 123 rfl) rfl rfl (Nat.le_of_ble_eq_true rfl) (Nat.le_of_ble_eq_true rfl) ?_
    refine EvM.mono k (fun r2 h1 k => ?_)
    obtain ⟨v3, rfl, k⟩ := k
    show Ev w _ _ _ 222 _ [.int v3] _ _
    exact Ev.iret .int (am_dt kX6_lawValue 124 rfl) rfl rfl k
  · have k := k.2 c
    refine Ev.iload 3 (am_dt kX6_lawValue 42 rfl) rfl ?_
    refine Ev.aload_n 2 (am_dt kX6_lawValue 43 rfl) rfl rfl ?_
    obtain ⟨f4, k⟩ := k
    refine Ev.alen 12 (am_dt kX6_lawValue 44 rfl) (by decide) (by decide) f4 ?_
    refine Ev.icmp_ge (tgt := 217) (am_dt kX6_lawValue 45 rfl) (by decide) (fun c => ?_) (fun c => ?_)
    · have k := k.1 c
      refine Ev.aload_n 2 (am_dt kX6_lawValue 121 rfl) rfl rfl ?_
      refine Ev.iconst (v := 0) (am_dt kX6_lawValue 122 rfl) (by decide) ?_
      refine Ev.callSN (v := mX9_get) (As := [.ref a3, .int 0]) (st := []) okX9_get wd_19 wd_72 (am_dt kX6_lawValue 123 rfl) rfl rfl (Nat.le_of_ble_eq_true rfl) (Nat.le_of_ble_eq_true rfl) ?_
      refine EvM.mono k (fun r6 h5 k => ?_)
      obtain ⟨v7, rfl, k⟩ := k
      show Ev w _ _ _ 222 _ [.int v7] _ _
      exact Ev.iret .int (am_dt kX6_lawValue 124 rfl) rfl rfl k
    · have k := k.2 c
      refine Ev.aload_n 0 (am_dt kX6_lawValue 46 rfl) rfl rfl ?_
      obtain ⟨f8, k⟩ := k
      obtain ⟨f9, k⟩ := k
      refine Ev.getR (ci := 6) (k := 5) (am_dt kX6_lawValue 47 rfl) (by decide) (by decide) rfl wd_52 f8.1 f9 ?_
      refine Ev.iload 5 (am_dt kX6_lawValue 48 rfl) rfl ?_
      obtain ⟨f10, k⟩ := k
      obtain ⟨f11, k⟩ := k
      refine Ev.iald (am_dt kX6_lawValue 49 rfl) f10 f11 ?_
      refine Ev.istore (lv' := [(7, .int (hI h (hR h a0 5) (Int32.toNatClampNeg x6))), (0, .ref a0), (2, .ref a2), (3, .ref a3), (4, .int x4), (5, .int x5), (6, .int x6)]) (am_dt kX6_lawValue 50 rfl) (by decide) rfl ?_
      refine Ev.iload 0 (am_dt kX6_lawValue 51 rfl) rfl ?_
      refine Ev.ineg (am_dt kX6_lawValue 52 rfl) ?_
      refine Ev.bipush (v := 75) (am_dt kX6_lawValue 53 rfl) (by decide) ?_
      refine Ev.isub (am_dt kX6_lawValue 54 rfl) ?_
      refine Ev.istore (lv' := [(8, .int ((-(hI h (hR h a0 5) (Int32.toNatClampNeg x6))) - 75)), (7, .int (hI h (hR h a0 5) (Int32.toNatClampNeg x6))), (0, .ref a0), (2, .ref a2), (3, .ref a3), (4, .int x4), (5, .int x5), (6, .int x6)]) (am_dt kX6_lawValue 55 rfl) (by decide) rfl ?_
      refine Ev.iload 1 (am_dt kX6_lawValue 56 rfl) rfl ?_
      refine Ev.if_lt (tgt := 118) (am_dt kX6_lawValue 57 rfl) (by decide) (fun c => ?_) (fun c => ?_)
      · have k := k.1 c
        refine Ev.iload 0 (am_dt kX6_lawValue 64 rfl) rfl ?_
        refine Ev.if_lt (tgt := 144) (am_dt kX6_lawValue 65 rfl) (by decide) (fun c => ?_) (fun c => ?_)
        · have k := k.1 c
          exact Ev.sub [2, 3, 4, 5, 6, 7, 1] rfl k
        · have k := k.2 c
          refine Ev.iload 0 (am_dt kX6_lawValue 66 rfl) rfl ?_
          refine Ev.aload_n 3 (am_dt kX6_lawValue 67 rfl) rfl rfl ?_
          obtain ⟨f12, k⟩ := k
          refine Ev.alen 12 (am_dt kX6_lawValue 68 rfl) (by decide) (by decide) f12 ?_
          refine Ev.icmp_ge (tgt := 144) (am_dt kX6_lawValue 69 rfl) (by decide) (fun c => ?_) (fun c => ?_)
          · have k := k.1 c
            exact Ev.sub [2, 3, 4, 5, 6, 7, 1] rfl k
          · have k := k.2 c
            refine Ev.aload_n 4 (am_dt kX6_lawValue 70 rfl) rfl rfl ?_
            refine Ev.iload 5 (am_dt kX6_lawValue 71 rfl) rfl ?_
            refine Ev.aload_n 3 (am_dt kX6_lawValue 72 rfl) rfl rfl ?_
            refine Ev.iload 0 (am_dt kX6_lawValue 73 rfl) rfl ?_
            obtain ⟨f13, k⟩ := k
            refine Ev.iald (am_dt kX6_lawValue 74 rfl) f12 f13 ?_
            obtain ⟨f14, k⟩ := k
            refine Ev.iast' (am_dt kX6_lawValue 75 rfl) f4 f14 (fun h15 eh15 => ?_)
            have k := k h15 eh15
            have f4 := kI eh15 f4
            have f8 := am_LsI eh15 f8
            have f10 := kI eh15 f10
            have f12 := kI eh15 f12
            refine Ev.iinc (v := x4 + 1) (lv' := [(4, .int (x4 + 1)), (8, .int ((-(hI h (hR h a0 5) (Int32.toNatClampNeg x6))) - 75)), (7, .int (hI h (hR h a0 5) (Int32.toNatClampNeg x6))), (0, .ref a0), (2, .ref a2), (3, .ref a3), (5, .int x5), (6, .int x6)]) 5 (am_dt kX6_lawValue 76 rfl) rfl rfl (by decide) rfl ?_
            refine Ev.goto (tgt := 211) (am_dt kX6_lawValue 77 rfl) (by decide) ?_
            refine Ev.iinc (v := x6 + 1) (lv' := [(6, .int (x6 + 1)), (4, .int (x4 + 1)), (8, .int ((-(hI h (hR h a0 5) (Int32.toNatClampNeg x6))) - 75)), (7, .int (hI h (hR h a0 5) (Int32.toNatClampNeg x6))), (0, .ref a0), (2, .ref a2), (3, .ref a3), (5, .int x5)]) 7 (am_dt kX6_lawValue 119 rfl) rfl rfl (by decide) rfl ?_
            refine Ev.goto (tgt := 70) (am_dt kX6_lawValue 120 rfl) (by decide) ?_
            exact Ev.sub [4, 5, 6, 1, 7, 0] rfl k
      · have k := k.2 c
        refine Ev.aload_n 4 (am_dt kX6_lawValue 58 rfl) rfl rfl ?_
        refine Ev.iload 5 (am_dt kX6_lawValue 59 rfl) rfl ?_
        refine Ev.iload 1 (am_dt kX6_lawValue 60 rfl) rfl ?_
        obtain ⟨f16, k⟩ := k
        refine Ev.iast' (am_dt kX6_lawValue 61 rfl) f4 f16 (fun h17 eh17 => ?_)
        have k := k h17 eh17
        have f4 := kI eh17 f4
        have f8 := am_LsI eh17 f8
        have f10 := kI eh17 f10
        refine Ev.iinc (v := x4 + 1) (lv' := [(4, .int (x4 + 1)), (8, .int ((-(hI h (hR h a0 5) (Int32.toNatClampNeg x6))) - 75)), (7, .int (hI h (hR h a0 5) (Int32.toNatClampNeg x6))), (0, .ref a0), (2, .ref a2), (3, .ref a3), (5, .int x5), (6, .int x6)]) 5 (am_dt kX6_lawValue 62 rfl) rfl rfl (by decide) rfl ?_
        refine Ev.goto (tgt := 211) (am_dt kX6_lawValue 63 rfl) (by decide) ?_
        refine Ev.iinc (v := x6 + 1) (lv' := [(6, .int (x6 + 1)), (4, .int (x4 + 1)), (8, .int ((-(hI h (hR h a0 5) (Int32.toNatClampNeg x6))) - 75)), (7, .int (hI h (hR h a0 5) (Int32.toNatClampNeg x6))), (0, .ref a0), (2, .ref a2), (3, .ref a3), (5, .int x5)]) 7 (am_dt kX6_lawValue 119 rfl) rfl rfl (by decide) rfl ?_
        refine Ev.goto (tgt := 70) (am_dt kX6_lawValue 120 rfl) (by decide) ?_
        exact Ev.sub [4, 5, 6, 1, 7, 0] rfl k
set_option maxRecDepth 20000 in
set_option maxHeartbeats 2000000 in
theorem bX6_lawValue_144 {w : am_W} {d : Nat} {h : am_H} {Q : Option Value → am_H → Prop} {a0 : Nat} {a2 : Nat} {a3 : Nat} {x4 : Int32} {x5 : Int32} {x6 : Int32} {x7 : Int32}  (k : (x7 = ((-87)) → ((x4 < 1 → (Ev w (am_Z w) mX6_lawValue (d + 1) 180 [(0, .ref a0), (2, .ref a2), (3, .ref a3), (4, .int x4), (5, .int x5), (6, .int x6), (7, .int x7)] [] h Q)) ∧ (¬ x4 < 1 → ((hK h a3 = 12) ∧ ((vp_in (x4 - 1) (hN h a3)) ∧ (((hI h a3 (Int32.toNatClampNeg (x4 - 1))) = 0 → ((vp_in (x4 - 1) (hN h a3)) ∧ (∀ h4 : am_H, h4 = sI h a3 (Int32.toNatClampNeg (x4 - 1)) 1 → (Ev w (am_Z w) mX6_lawValue (d + 1) 70 [(0, .ref a0), (2, .ref a2), (3, .ref a3), (4, .int x4), (5, .int x5), (6, .int (x6 + 1))] [] h4 Q)))) ∧ (¬ (hI h a3 (Int32.toNatClampNeg (x4 - 1))) = 0 → ((vp_in (x4 - 1) (hN h a3)) ∧ (∀ h6 : am_H, h6 = sI h a3 (Int32.toNatClampNeg (x4 - 1)) 0 → (Ev w (am_Z w) mX6_lawValue (d + 1) 70 [(0, .ref a0), (2, .ref a2), (3, .ref a3), (4, .int x4), (5, .int x5), (6, .int (x6 + 1))] [] h6 Q)))))))))) ∧ (¬ x7 = ((-87)) → (Ev w (am_Z w) mX6_lawValue (d + 1) 180 [(0, .ref a0), (2, .ref a2), (3, .ref a3), (4, .int x4), (5, .int x5), (6, .int x6), (7, .int x7)] [] h Q))) : Ev w (am_Z w) mX6_lawValue (d + 1) 144 [(0, .ref a0), (2, .ref a2), (3, .ref a3), (4, .int x4), (5, .int x5), (6, .int x6), (7, .int x7)] [] h Q := by
  refine Ev.iload 6 (am_dt kX6_lawValue 78 rfl) rfl ?_
  refine Ev.bipush (v := (-87)) (am_dt kX6_lawValue 79 rfl) (by decide) ?_
  refine Ev.icmp_ne (tgt := 180) (am_dt kX6_lawValue 80 rfl) (by decide) (fun c => ?_) (fun c => ?_)
  · have k := k.2 c
    exact k
  · have k := k.1 c
    refine Ev.iload 3 (am_dt kX6_lawValue 81 rfl) rfl ?_
    refine Ev.iconst (v := 1) (am_dt kX6_lawValue 82 rfl) (by decide) ?_
    refine Ev.icmp_lt (tgt := 180) (am_dt kX6_lawValue 83 rfl) (by decide) (fun c => ?_) (fun c => ?_)
    · have k := k.1 c
      exact k
    · have k := k.2 c
      refine Ev.aload_n 2 (am_dt kX6_lawValue 84 rfl) rfl rfl ?_
      refine Ev.iload 3 (am_dt kX6_lawValue 85 rfl) rfl ?_
      refine Ev.iconst (v := 1) (am_dt kX6_lawValue 86 rfl) (by decide) ?_
      refine Ev.isub (am_dt kX6_lawValue 87 rfl) ?_
      refine Ev.aload_n 2 (am_dt kX6_lawValue 88 rfl) rfl rfl ?_
      refine Ev.iload 3 (am_dt kX6_lawValue 89 rfl) rfl ?_
      refine Ev.iconst (v := 1) (am_dt kX6_lawValue 90 rfl) (by decide) ?_
      refine Ev.isub (am_dt kX6_lawValue 91 rfl) ?_
      obtain ⟨f1, k⟩ := k
      obtain ⟨f2, k⟩ := k
      refine Ev.iald (am_dt kX6_lawValue 92 rfl) f1 f2 ?_
      refine Ev.if_ne (tgt := 175) (am_dt kX6_lawValue 93 rfl) (by decide) (fun c => ?_) (fun c => ?_)
      · have k := k.2 c
        refine Ev.iconst (v := 0) (am_dt kX6_lawValue 96 rfl) (by decide) ?_
        obtain ⟨f5, k⟩ := k
        refine Ev.iast' (am_dt kX6_lawValue 97 rfl) f1 f5 (fun h6 eh6 => ?_)
        have k := k h6 eh6
        have f1 := kI eh6 f1
        refine Ev.goto (tgt := 211) (am_dt kX6_lawValue 98 rfl) (by decide) ?_
        refine Ev.iinc (v := x6 + 1) (lv' := [(6, .int (x6 + 1)), (0, .ref a0), (2, .ref a2), (3, .ref a3), (4, .int x4), (5, .int x5), (7, .int x7)]) 5 (am_dt kX6_lawValue 119 rfl) rfl rfl (by decide) rfl ?_
        refine Ev.goto (tgt := 70) (am_dt kX6_lawValue 120 rfl) (by decide) ?_
        exact Ev.sub [1, 2, 3, 4, 5, 0] rfl k
      · have k := k.1 c
        refine Ev.iconst (v := 1) (am_dt kX6_lawValue 94 rfl) (by decide) ?_
        refine Ev.goto (tgt := 176) (am_dt kX6_lawValue 95 rfl) (by decide) ?_
        obtain ⟨f3, k⟩ := k
        refine Ev.iast' (am_dt kX6_lawValue 97 rfl) f1 f3 (fun h4 eh4 => ?_)
        have k := k h4 eh4
        have f1 := kI eh4 f1
        refine Ev.goto (tgt := 211) (am_dt kX6_lawValue 98 rfl) (by decide) ?_
        refine Ev.iinc (v := x6 + 1) (lv' := [(6, .int (x6 + 1)), (0, .ref a0), (2, .ref a2), (3, .ref a3), (4, .int x4), (5, .int x5), (7, .int x7)]) 5 (am_dt kX6_lawValue 119 rfl) rfl rfl (by decide) rfl ?_
        refine Ev.goto (tgt := 70) (am_dt kX6_lawValue 120 rfl) (by decide) ?_
        exact Ev.sub [1, 2, 3, 4, 5, 0] rfl k
set_option maxRecDepth 20000 in
set_option maxHeartbeats 2000000 in
theorem bX6_lawValue_180 {w : am_W} {d : Nat} {h : am_H} {Q : Option Value → am_H → Prop} {a0 : Nat} {a2 : Nat} {a3 : Nat} {x4 : Int32} {x5 : Int32} {x6 : Int32} {x7 : Int32}  (k : (x4 < 2 → (Ev w (am_Z w) mX6_lawValue (d + 1) 70 [(0, .ref a0), (2, .ref a2), (3, .ref a3), (4, .int x4), (5, .int x5), (6, .int (x6 + 1))] [] h Q)) ∧ (¬ x4 < 2 → ((hK h a3 = 12) ∧ ((vp_in ((x4 + (-1)) - 1) (hN h a3)) ∧ ((vp_in (x4 + (-1)) (hN h a3)) ∧ (EvM w mX6_joined d [.int (-x7), .int (hI h a3 (Int32.toNatClampNeg ((x4 + (-1)) - 1))), .int (hI h a3 (Int32.toNatClampNeg (x4 + (-1))))] h (fun r5 h4 => ∃ v6 : Int32, r5 = some (.int v6) ∧ ((hK h4 a3 = 12) ∧ ((vp_in ((x4 + (-1)) - 1) (hN h4 a3)) ∧ (∀ h9 : am_H, h9 = sI h4 a3 (Int32.toNatClampNeg ((x4 + (-1)) - 1)) v6 → (Ev w (am_Z w) mX6_lawValue (d + 1) 70 [(0, .ref a0), (2, .ref a2), (3, .ref a3), (4, .int (x4 + (-1))), (5, .int x5), (6, .int (x6 + 1))] [] h9 Q))))))))))) : Ev w (am_Z w) mX6_lawValue (d + 1) 180 [(0, .ref a0), (2, .ref a2), (3, .ref a3), (4, .int x4), (5, .int x5), (6, .int x6), (7, .int x7)] [] h Q := by
  refine Ev.iload 3 (am_dt kX6_lawValue 99 rfl) rfl ?_
  refine Ev.iconst (v := 2) (am_dt kX6_lawValue 100 rfl) (by decide) ?_
  refine Ev.icmp_lt (tgt := 211) (am_dt kX6_lawValue 101 rfl) (by decide) (fun c => ?_) (fun c => ?_)
  · have k := k.1 c
    refine Ev.iinc (v := x6 + 1) (lv' := [(6, .int (x6 + 1)), (0, .ref a0), (2, .ref a2), (3, .ref a3), (4, .int x4), (5, .int x5), (7, .int x7)]) 5 (am_dt kX6_lawValue 119 rfl) rfl rfl (by decide) rfl ?_
    refine Ev.goto (tgt := 70) (am_dt kX6_lawValue 120 rfl) (by decide) ?_
    exact Ev.sub [1, 2, 3, 4, 5, 0] rfl k
  · have k := k.2 c
    refine Ev.iinc (v := x4 + (-1)) (lv' := [(4, .int (x4 + (-1))), (0, .ref a0), (2, .ref a2), (3, .ref a3), (5, .int x5), (6, .int x6), (7, .int x7)]) 3 (am_dt kX6_lawValue 102 rfl) rfl rfl (by decide) rfl ?_
    refine Ev.aload_n 3 (am_dt kX6_lawValue 103 rfl) rfl rfl ?_
    refine Ev.iload 0 (am_dt kX6_lawValue 104 rfl) rfl ?_
    refine Ev.iconst (v := 1) (am_dt kX6_lawValue 105 rfl) (by decide) ?_
    refine Ev.isub (am_dt kX6_lawValue 106 rfl) ?_
    refine Ev.iload 6 (am_dt kX6_lawValue 107 rfl) rfl ?_
    refine Ev.ineg (am_dt kX6_lawValue 108 rfl) ?_
    refine Ev.aload_n 3 (am_dt kX6_lawValue 109 rfl) rfl rfl ?_
    refine Ev.iload 0 (am_dt kX6_lawValue 110 rfl) rfl ?_
    refine Ev.iconst (v := 1) (am_dt kX6_lawValue 111 rfl) (by decide) ?_
    refine Ev.isub (am_dt kX6_lawValue 112 rfl) ?_
    obtain ⟨f1, k⟩ := k
    obtain ⟨f2, k⟩ := k
    refine Ev.iald (am_dt kX6_lawValue 113 rfl) f1 f2 ?_
    refine Ev.aload_n 3 (am_dt kX6_lawValue 114 rfl) rfl rfl ?_
    refine Ev.iload 0 (am_dt kX6_lawValue 115 rfl) rfl ?_
    obtain ⟨f3, k⟩ := k
    refine Ev.iald (am_dt kX6_lawValue 116 rfl) f1 f3 ?_
    refine Ev.callS (v := mX6_joined) (As := [.int (-x7), .int (hI h a3 (Int32.toNatClampNeg ((x4 + (-1)) - 1))), .int (hI h a3 (Int32.toNatClampNeg (x4 + (-1))))]) (st := [.int ((x4 + (-1)) - 1), .ref a3]) okX6_joined wd_78 wd_77 (am_dt kX6_lawValue 117 rfl) rfl rfl (Nat.le_of_ble_eq_true rfl) (Nat.le_of_ble_eq_true rfl) ?_
    refine EvM.mono k (fun r5 h4 k => ?_)
    obtain ⟨v6, rfl, k⟩ := k
    show Ev w _ _ _ 210 _ [.int v6, .int ((x4 + (-1)) - 1), .ref a3] _ _
    obtain ⟨f7, k⟩ := k
    obtain ⟨f8, k⟩ := k
    refine Ev.iast' (am_dt kX6_lawValue 118 rfl) f7 f8 (fun h9 eh9 => ?_)
    have k := k h9 eh9
    have f7 := kI eh9 f7
    refine Ev.iinc (v := x6 + 1) (lv' := [(6, .int (x6 + 1)), (4, .int (x4 + (-1))), (0, .ref a0), (2, .ref a2), (3, .ref a3), (5, .int x5), (7, .int x7)]) 5 (am_dt kX6_lawValue 119 rfl) rfl rfl (by decide) rfl ?_
    refine Ev.goto (tgt := 70) (am_dt kX6_lawValue 120 rfl) (by decide) ?_
    exact Ev.sub [2, 3, 4, 1, 5, 0] rfl k
set_option maxRecDepth 20000 in
set_option maxHeartbeats 2000000 in
theorem bX6_joined_0 {w : am_W} {d : Nat} {h : am_H} {Q : Option Value → am_H → Prop} {x0 : Int32} {x1 : Int32} {x2 : Int32}  (k : (x0 = 42 → (Q (some (.int (x1 * x2))) h)) ∧ (¬ x0 = 42 → ((x0 = 43 → (Q (some (.int (x1 + x2))) h)) ∧ (¬ x0 = 43 → ((x0 = 45 → (Q (some (.int (x1 - x2))) h)) ∧ (¬ x0 = 45 → ((x0 = 60 → ((x2 ≤ x1 → (Q (some (.int 0)) h)) ∧ (¬ x2 ≤ x1 → (Q (some (.int 1)) h)))) ∧ (¬ x0 = 60 → ((x0 = 61 → ((x1 = x2 → (Q (some (.int 1)) h)) ∧ (¬ x1 = x2 → (Q (some (.int 0)) h)))) ∧ (¬ x0 = 61 → ((x0 = 88 → ((x1 = 0 → (Q (some (.int 0)) h)) ∧ (¬ x1 = 0 → ((x2 = 0 → (Q (some (.int 0)) h)) ∧ (¬ x2 = 0 → (Q (some (.int 1)) h)))))) ∧ (¬ x0 = 88 → ((x1 = 0 → ((x2 = 0 → (Q (some (.int 0)) h)) ∧ (¬ x2 = 0 → (Q (some (.int 1)) h)))) ∧ (¬ x1 = 0 → (Q (some (.int 1)) h))))))))))))))) : EvM w mX6_joined d [.int x0, .int x1, .int x2] h Q := by
  show Ev w (am_Z w) mX6_joined d 0 [(0, .int x0), (1, .int x1), (2, .int x2)] [] h Q
  refine Ev.iload_n 0 (am_dt kX6_joined 0 rfl) rfl rfl ?_
  by_cases c : x0 = 42
  · refine Ev.lookup (off := 67) (tgt := 68) (am_dt kX6_joined 1 rfl) (by decide) (by rw [c]; rfl) (by decide) ?_
    have k := k.1 c
    refine Ev.iload_n 1 (am_dt kX6_joined 10 rfl) rfl rfl ?_
    refine Ev.iload_n 2 (am_dt kX6_joined 11 rfl) rfl rfl ?_
    refine Ev.imul (am_dt kX6_joined 12 rfl) ?_
    exact Ev.iret .int (am_dt kX6_joined 13 rfl) rfl rfl k
  have k := k.2 c
  have c42 := am_ne (n := 42) (by decide) c
  clear c
  by_cases c : x0 = 43
  · refine Ev.lookup (off := 59) (tgt := 60) (am_dt kX6_joined 1 rfl) (by decide) (by rw [c]; rfl) (by decide) ?_
    have k := k.1 c
    refine Ev.iload_n 1 (am_dt kX6_joined 2 rfl) rfl rfl ?_
    refine Ev.iload_n 2 (am_dt kX6_joined 3 rfl) rfl rfl ?_
    refine Ev.iadd (am_dt kX6_joined 4 rfl) ?_
    exact Ev.iret .int (am_dt kX6_joined 5 rfl) rfl rfl k
  have k := k.2 c
  have c43 := am_ne (n := 43) (by decide) c
  clear c
  by_cases c : x0 = 45
  · refine Ev.lookup (off := 63) (tgt := 64) (am_dt kX6_joined 1 rfl) (by decide) (by rw [c]; rfl) (by decide) ?_
    have k := k.1 c
    refine Ev.iload_n 1 (am_dt kX6_joined 6 rfl) rfl rfl ?_
    refine Ev.iload_n 2 (am_dt kX6_joined 7 rfl) rfl rfl ?_
    refine Ev.isub (am_dt kX6_joined 8 rfl) ?_
    exact Ev.iret .int (am_dt kX6_joined 9 rfl) rfl rfl k
  have k := k.2 c
  have c45 := am_ne (n := 45) (by decide) c
  clear c
  by_cases c : x0 = 60
  · refine Ev.lookup (off := 71) (tgt := 72) (am_dt kX6_joined 1 rfl) (by decide) (by rw [c]; rfl) (by decide) ?_
    have k := k.1 c
    refine Ev.iload_n 1 (am_dt kX6_joined 14 rfl) rfl rfl ?_
    refine Ev.iload_n 2 (am_dt kX6_joined 15 rfl) rfl rfl ?_
    refine Ev.icmp_ge (tgt := 81) (am_dt kX6_joined 16 rfl) (by decide) (fun c => ?_) (fun c => ?_)
    · have k := k.1 c
      refine Ev.iconst (v := 0) (am_dt kX6_joined 19 rfl) (by decide) ?_
      exact Ev.iret .int (am_dt kX6_joined 20 rfl) rfl rfl k
    · have k := k.2 c
      refine Ev.iconst (v := 1) (am_dt kX6_joined 17 rfl) (by decide) ?_
      refine Ev.goto (tgt := 82) (am_dt kX6_joined 18 rfl) (by decide) ?_
      exact Ev.iret .int (am_dt kX6_joined 20 rfl) rfl rfl k
  have k := k.2 c
  have c60 := am_ne (n := 60) (by decide) c
  clear c
  by_cases c : x0 = 61
  · refine Ev.lookup (off := 82) (tgt := 83) (am_dt kX6_joined 1 rfl) (by decide) (by rw [c]; rfl) (by decide) ?_
    have k := k.1 c
    refine Ev.iload_n 1 (am_dt kX6_joined 21 rfl) rfl rfl ?_
    refine Ev.iload_n 2 (am_dt kX6_joined 22 rfl) rfl rfl ?_
    refine Ev.icmp_ne (tgt := 92) (am_dt kX6_joined 23 rfl) (by decide) (fun c => ?_) (fun c => ?_)
    · have k := k.2 c
      refine Ev.iconst (v := 0) (am_dt kX6_joined 26 rfl) (by decide) ?_
      exact Ev.iret .int (am_dt kX6_joined 27 rfl) rfl rfl k
    · have k := k.1 c
      refine Ev.iconst (v := 1) (am_dt kX6_joined 24 rfl) (by decide) ?_
      refine Ev.goto (tgt := 93) (am_dt kX6_joined 25 rfl) (by decide) ?_
      exact Ev.iret .int (am_dt kX6_joined 27 rfl) rfl rfl k
  have k := k.2 c
  have c61 := am_ne (n := 61) (by decide) c
  clear c
  by_cases c : x0 = 88
  · refine Ev.lookup (off := 93) (tgt := 94) (am_dt kX6_joined 1 rfl) (by decide) (by rw [c]; rfl) (by decide) ?_
    have k := k.1 c
    refine Ev.iload_n 1 (am_dt kX6_joined 28 rfl) rfl rfl ?_
    refine Ev.if_eq (tgt := 106) (am_dt kX6_joined 29 rfl) (by decide) (fun c => ?_) (fun c => ?_)
    · have k := k.1 c
      refine Ev.iconst (v := 0) (am_dt kX6_joined 34 rfl) (by decide) ?_
      exact Ev.iret .int (am_dt kX6_joined 35 rfl) rfl rfl k
    · have k := k.2 c
      refine Ev.iload_n 2 (am_dt kX6_joined 30 rfl) rfl rfl ?_
      refine Ev.if_eq (tgt := 106) (am_dt kX6_joined 31 rfl) (by decide) (fun c => ?_) (fun c => ?_)
      · have k := k.1 c
        refine Ev.iconst (v := 0) (am_dt kX6_joined 34 rfl) (by decide) ?_
        exact Ev.iret .int (am_dt kX6_joined 35 rfl) rfl rfl k
      · have k := k.2 c
        refine Ev.iconst (v := 1) (am_dt kX6_joined 32 rfl) (by decide) ?_
        refine Ev.goto (tgt := 107) (am_dt kX6_joined 33 rfl) (by decide) ?_
        exact Ev.iret .int (am_dt kX6_joined 35 rfl) rfl rfl k
  have k := k.2 c
  have c88 := am_ne (n := 88) (by decide) c
  clear c
  refine Ev.lookup (off := 107) (tgt := 108) (am_dt kX6_joined 1 rfl) (by decide) (by simp [Op.lookupswitch.offset, c42, c43, c45, c60, c61, c88, Ne.symm]) (by decide) ?_
  refine Ev.iload_n 1 (am_dt kX6_joined 36 rfl) rfl rfl ?_
  refine Ev.if_ne (tgt := 116) (am_dt kX6_joined 37 rfl) (by decide) (fun c => ?_) (fun c => ?_)
  · have k := k.2 c
    refine Ev.iconst (v := 1) (am_dt kX6_joined 40 rfl) (by decide) ?_
    refine Ev.goto (tgt := 121) (am_dt kX6_joined 41 rfl) (by decide) ?_
    exact Ev.iret .int (am_dt kX6_joined 43 rfl) rfl rfl k
  · have k := k.1 c
    refine Ev.iload_n 2 (am_dt kX6_joined 38 rfl) rfl rfl ?_
    refine Ev.if_eq (tgt := 120) (am_dt kX6_joined 39 rfl) (by decide) (fun c => ?_) (fun c => ?_)
    · have k := k.1 c
      refine Ev.iconst (v := 0) (am_dt kX6_joined 42 rfl) (by decide) ?_
      exact Ev.iret .int (am_dt kX6_joined 43 rfl) rfl rfl k
    · have k := k.2 c
      refine Ev.iconst (v := 1) (am_dt kX6_joined 40 rfl) (by decide) ?_
      refine Ev.goto (tgt := 121) (am_dt kX6_joined 41 rfl) (by decide) ?_
      exact Ev.iret .int (am_dt kX6_joined 43 rfl) rfl rfl k
