set_option maxRecDepth 20000 in
set_option maxHeartbeats 2000000 in
theorem bX3_init_0 {w : am_W} {d : Nat} {h : am_H} {Q : Option Value → am_H → Prop} {a0 : Nat} {a1 : Nat} {x2 : Int32}  (k : ∀ h1 : am_H, h1 = nA h 12 2 → ((hK h1 a0 = 3) ∧ ((hZ h ≠ 0) ∧ (∀ h4 : am_H, h4 = sR h1 a0 7 (hZ h) → (∀ h5 : am_H, h5 = nA h4 12 6 → ((hK h5 a0 = 3) ∧ ((hZ h4 ≠ 0) ∧ (∀ h8 : am_H, h8 = sR h5 a0 8 (hZ h4) → (∀ h9 : am_H, h9 = nA h8 12 32 → ((hK h9 a0 = 3) ∧ ((hZ h8 ≠ 0) ∧ (∀ h12 : am_H, h12 = sR h9 a0 9 (hZ h8) → (∀ h13 : am_H, h13 = nO h12 0 6 → (EvM w mX0_init d [.ref (hZ h12), .int (if 0 < x2 then x2 else 0)] h13 (fun r15 h14 => r15 = none ∧ ((hK h14 a0 = 3) ∧ ((hZ h12 ≠ 0) ∧ (∀ h18 : am_H, h18 = sR h14 a0 0 (hZ h12) → (∀ h19 : am_H, h19 = nO h18 0 6 → (EvM w mX0_init d [.ref (hZ h18), .int (if 0 < x2 then x2 else 0)] h19 (fun r21 h20 => r21 = none ∧ ((hK h20 a0 = 3) ∧ ((hZ h18 ≠ 0) ∧ (∀ h24 : am_H, h24 = sR h20 a0 1 (hZ h18) → ((¬ (if 0 < x2 then x2 else 0) < 0 ∧ Int32.toNatClampNeg (if 0 < x2 then x2 else 0) ≤ 50000000) ∧ (∀ h25 : am_H, h25 = nA h24 12 (Int32.toNatClampNeg (if 0 < x2 then x2 else 0)) → ((hK h25 a0 = 3) ∧ ((hZ h24 ≠ 0) ∧ (∀ h29 : am_H, h29 = sR h25 a0 2 (hZ h24) → ((¬ (if 0 < x2 then x2 else 0) < 0 ∧ Int32.toNatClampNeg (if 0 < x2 then x2 else 0) ≤ 50000000) ∧ (∀ h30 : am_H, h30 = nA h29 12 (Int32.toNatClampNeg (if 0 < x2 then x2 else 0)) → ((hK h30 a0 = 3) ∧ ((hZ h29 ≠ 0) ∧ (∀ h34 : am_H, h34 = sR h30 a0 3 (hZ h29) → ((¬ (if 0 < x2 then x2 else 0) < 0 ∧ Int32.toNatClampNeg (if 0 < x2 then x2 else 0) ≤ 50000000) ∧ (∀ h35 : am_H, h35 = nA h34 12 (Int32.toNatClampNeg (if 0 < x2 then x2 else 0)) → ((hK h35 a0 = 3) ∧ ((hZ h34 ≠ 0) ∧ (∀ h39 : am_H, h39 = sR h35 a0 4 (hZ h34) → ((¬ (if 0 < x2 then x2 else 0) < 0 ∧ Int32.toNatClampNeg (if 0 < x2 then x2 else 0) ≤ 50000000) ∧ (∀ h40 : am_H, h40 = nA h39 12 (Int32.toNatClampNeg (if 0 < x2 then x2 else 0)) → ((hK h40 a0 = 3) ∧ ((hZ h39 ≠ 0) ∧ (∀ h44 : am_H, h44 = sR h40 a0 5 (hZ h39) → ((¬ (if 0 < x2 then x2 else 0) < 0 ∧ Int32.toNatClampNeg (if 0 < x2 then x2 else 0) ≤ 50000000) ∧ (∀ h45 : am_H, h45 = nA h44 12 (Int32.toNatClampNeg (if 0 < x2 then x2 else 0)) → ((hK h45 a0 = 3) ∧ ((hZ h44 ≠ 0) ∧ (∀ h49 : am_H, h49 = sR h45 a0 6 (hZ h44) → ((a1 ≠ 0) ∧ (∀ h51 : am_H, h51 = sR h49 a0 12 a1 → ((hK h51 a1 = 6) ∧ ((hR h51 a1 0 ≠ 0) ∧ (∀ h54 : am_H, h54 = sR h51 a0 13 (hR h51 a1 0) → ((hR h54 a1 0 ≠ 0) ∧ ((hK h54 (hR h54 a1 0) = 2) ∧ ((hR h54 (hR h54 a1 0) 1 ≠ 0) ∧ (∀ h58 : am_H, h58 = sR h54 a0 14 (hR h54 (hR h54 a1 0) 1) → (Q none h58))))))))))))))))))))))))))))))))))))))))))))))))))))))))))) : EvM w mX3_init (d + 1) [.ref a0, .ref a1, .int x2] h Q := by
  show Ev w (am_Z w) mX3_init (d + 1) 0 [(0, .ref a0), (1, .ref a1), (2, .int x2)] [] h Q
  refine Ev.aload_n 0 (am_dt kX3_init 0 rfl) rfl rfl ?_
  refine Ev.objI wd_177 wd_2 wd_3 (am_dt kX3_init 1 rfl) (Nat.le_of_ble_eq_true rfl) ?_
  refine Ev.aload_n 0 (am_dt kX3_init 2 rfl) rfl rfl ?_
  refine Ev.iconst (v := 2) (am_dt kX3_init 3 rfl) (by decide) ?_
  refine Ev.newI' (n := 2) (N := 2) (am_dt kX3_init 4 rfl) wd_9 (by decide) (by decide) (by decide) (fun h1 eh1 => ?_)
  have k := k h1 eh1
  obtain ⟨f2, k⟩ := k
  obtain ⟨f3, k⟩ := k
  refine Ev.putRF' (ci := 3) (k := 7) (am_dt kX3_init 5 rfl) (by decide) (by decide) wd_178 rfl rfl rfl rfl rfl rfl f3 f2 (fun h4 eh4 => ?_)
  have k := k h4 eh4
  have f2 := kR eh4 f2
  refine Ev.aload_n 0 (am_dt kX3_init 6 rfl) rfl rfl ?_
  refine Ev.bipush (v := 6) (am_dt kX3_init 7 rfl) (by decide) ?_
  refine Ev.newI' (n := 6) (N := 6) (am_dt kX3_init 8 rfl) wd_9 (by decide) (by decide) (by decide) (fun h5 eh5 => ?_)
  have k := k h5 eh5
  obtain ⟨f6, k⟩ := k
  obtain ⟨f7, k⟩ := k
  refine Ev.putRF' (ci := 3) (k := 8) (am_dt kX3_init 9 rfl) (by decide) (by decide) wd_179 rfl rfl rfl rfl rfl rfl f7 f6 (fun h8 eh8 => ?_)
  have k := k h8 eh8
  have f6 := kR eh8 f6
  refine Ev.aload_n 0 (am_dt kX3_init 10 rfl) rfl rfl ?_
  refine Ev.bipush (v := 32) (am_dt kX3_init 11 rfl) (by decide) ?_
  refine Ev.newI' (n := 32) (N := 32) (am_dt kX3_init 12 rfl) wd_9 (by decide) (by decide) (by decide) (fun h9 eh9 => ?_)
  have k := k h9 eh9
  obtain ⟨f10, k⟩ := k
  obtain ⟨f11, k⟩ := k
  refine Ev.putRF' (ci := 3) (k := 9) (am_dt kX3_init 13 rfl) (by decide) (by decide) wd_180 rfl rfl rfl rfl rfl rfl f11 f10 (fun h12 eh12 => ?_)
  have k := k h12 eh12
  have f10 := kR eh12 f10
  refine Ev.iconst (v := 0) (am_dt kX3_init 14 rfl) (by decide) ?_
  refine Ev.iload_n 2 (am_dt kX3_init 15 rfl) rfl rfl ?_
  refine Ev.mmax wd_181 wd_5 wd_6 wd_7 (am_dt kX3_init 16 rfl) (Nat.le_of_ble_eq_true rfl) ?_
  refine Ev.istore_n (lv' := [(3, .int (if 0 < x2 then x2 else 0)), (0, .ref a0), (1, .ref a1), (2, .int x2)]) (am_dt kX3_init 17 rfl) rfl (by decide) rfl ?_
  refine Ev.aload_n 1 (am_dt kX3_init 18 rfl) rfl rfl ?_
  refine Ev.newO' (ci := 0) (am_dt kX3_init 19 rfl) (by decide) wd_196 wd_197 wd_198 (fun h13 eh13 => ?_)
  have k := k h13 eh13
  refine Ev.dup (am_dt kX3_init 20 rfl) rfl ?_
  refine Ev.iload_n 0 (am_dt kX3_init 21 rfl) rfl rfl ?_
  refine Ev.callI (v := mX0_init) (As := [.int (if 0 < x2 then x2 else 0)]) (st := [.ref (hZ h12), .ref a0]) okX0_init wd_183 rfl rfl wd_182 (am_dt kX3_init 22 rfl) rfl rfl (Nat.le_of_ble_eq_true rfl) (Nat.le_of_ble_eq_true rfl) ?_
  refine EvM.mono k (fun r15 h14 k => ?_)
  obtain ⟨rfl, k⟩ := k
  show Ev w _ _ _ 42 _ [.ref (hZ h12), .ref a0] _ _
  obtain ⟨f16, k⟩ := k
  obtain ⟨f17, k⟩ := k
  refine Ev.putRF' (ci := 3) (k := 0) (am_dt kX3_init 23 rfl) (by decide) (by decide) wd_184 rfl rfl rfl rfl rfl rfl f17 f16 (fun h18 eh18 => ?_)
  have k := k h18 eh18
  have f16 := kR eh18 f16
  refine Ev.aload_n 1 (am_dt kX3_init 24 rfl) rfl rfl ?_
  refine Ev.newO' (ci := 0) (am_dt kX3_init 25 rfl) (by decide) wd_196 wd_197 wd_198 (fun h19 eh19 => ?_)
  have k := k h19 eh19
  refine Ev.dup (am_dt kX3_init 26 rfl) rfl ?_
  refine Ev.iload_n 0 (am_dt kX3_init 27 rfl) rfl rfl ?_
  refine Ev.callI (v := mX0_init) (As := [.int (if 0 < x2 then x2 else 0)]) (st := [.ref (hZ h18), .ref a0]) okX0_init wd_183 rfl rfl wd_182 (am_dt kX3_init 28 rfl) rfl rfl (Nat.le_of_ble_eq_true rfl) (Nat.le_of_ble_eq_true rfl) ?_
  refine EvM.mono k (fun r21 h20 k => ?_)
  obtain ⟨rfl, k⟩ := k
  show Ev w _ _ _ 54 _ [.ref (hZ h18), .ref a0] _ _
  obtain ⟨f22, k⟩ := k
  obtain ⟨f23, k⟩ := k
  refine Ev.putRF' (ci := 3) (k := 1) (am_dt kX3_init 29 rfl) (by decide) (by decide) wd_185 rfl rfl rfl rfl rfl rfl f23 f22 (fun h24 eh24 => ?_)
  have k := k h24 eh24
  have f22 := kR eh24 f22
  refine Ev.aload_n 1 (am_dt kX3_init 30 rfl) rfl rfl ?_
  refine Ev.iload_n 0 (am_dt kX3_init 31 rfl) rfl rfl ?_
  obtain ⟨f26, k⟩ := k
  refine Ev.newI' (N := (Int32.toNatClampNeg (if 0 < x2 then x2 else 0))) (am_dt kX3_init 32 rfl) wd_9 f26.1 rfl (by have := f26.2; omega) (fun h25 eh25 => ?_)
  have k := k h25 eh25
  obtain ⟨f27, k⟩ := k
  obtain ⟨f28, k⟩ := k
  refine Ev.putRF' (ci := 3) (k := 2) (am_dt kX3_init 33 rfl) (by decide) (by decide) wd_186 rfl rfl rfl rfl rfl rfl f28 f27 (fun h29 eh29 => ?_)
  have k := k h29 eh29
  have f27 := kR eh29 f27
  refine Ev.aload_n 1 (am_dt kX3_init 34 rfl) rfl rfl ?_
  refine Ev.iload_n 0 (am_dt kX3_init 35 rfl) rfl rfl ?_
  obtain ⟨f31, k⟩ := k
  refine Ev.newI' (N := (Int32.toNatClampNeg (if 0 < x2 then x2 else 0))) (am_dt kX3_init 36 rfl) wd_9 f31.1 rfl (by have := f31.2; omega) (fun h30 eh30 => ?_)
  have k := k h30 eh30
  obtain ⟨f32, k⟩ := k
  obtain ⟨f33, k⟩ := k
  refine Ev.putRF' (ci := 3) (k := 3) (am_dt kX3_init 37 rfl) (by decide) (by decide) wd_187 rfl rfl rfl rfl rfl rfl f33 f32 (fun h34 eh34 => ?_)
  have k := k h34 eh34
  have f32 := kR eh34 f32
  refine Ev.aload_n 1 (am_dt kX3_init 38 rfl) rfl rfl ?_
  refine Ev.iload_n 0 (am_dt kX3_init 39 rfl) rfl rfl ?_
  obtain ⟨f36, k⟩ := k
  refine Ev.newI' (N := (Int32.toNatClampNeg (if 0 < x2 then x2 else 0))) (am_dt kX3_init 40 rfl) wd_9 f36.1 rfl (by have := f36.2; omega) (fun h35 eh35 => ?_)
  have k := k h35 eh35
  obtain ⟨f37, k⟩ := k
  obtain ⟨f38, k⟩ := k
  refine Ev.putRF' (ci := 3) (k := 4) (am_dt kX3_init 41 rfl) (by decide) (by decide) wd_188 rfl rfl rfl rfl rfl rfl f38 f37 (fun h39 eh39 => ?_)
  have k := k h39 eh39
  have f37 := kR eh39 f37
  refine Ev.aload_n 1 (am_dt kX3_init 42 rfl) rfl rfl ?_
  refine Ev.iload_n 0 (am_dt kX3_init 43 rfl) rfl rfl ?_
  obtain ⟨f41, k⟩ := k
  refine Ev.newI' (N := (Int32.toNatClampNeg (if 0 < x2 then x2 else 0))) (am_dt kX3_init 44 rfl) wd_9 f41.1 rfl (by have := f41.2; omega) (fun h40 eh40 => ?_)
  have k := k h40 eh40
  obtain ⟨f42, k⟩ := k
  obtain ⟨f43, k⟩ := k
  refine Ev.putRF' (ci := 3) (k := 5) (am_dt kX3_init 45 rfl) (by decide) (by decide) wd_189 rfl rfl rfl rfl rfl rfl f43 f42 (fun h44 eh44 => ?_)
  have k := k h44 eh44
  have f42 := kR eh44 f42
  refine Ev.aload_n 1 (am_dt kX3_init 46 rfl) rfl rfl ?_
  refine Ev.iload_n 0 (am_dt kX3_init 47 rfl) rfl rfl ?_
  obtain ⟨f46, k⟩ := k
  refine Ev.newI' (N := (Int32.toNatClampNeg (if 0 < x2 then x2 else 0))) (am_dt kX3_init 48 rfl) wd_9 f46.1 rfl (by have := f46.2; omega) (fun h45 eh45 => ?_)
  have k := k h45 eh45
  obtain ⟨f47, k⟩ := k
  obtain ⟨f48, k⟩ := k
  refine Ev.putRF' (ci := 3) (k := 6) (am_dt kX3_init 49 rfl) (by decide) (by decide) wd_190 rfl rfl rfl rfl rfl rfl f48 f47 (fun h49 eh49 => ?_)
  have k := k h49 eh49
  have f47 := kR eh49 f47
  refine Ev.aload_n 1 (am_dt kX3_init 50 rfl) rfl rfl ?_
  refine Ev.aload_n 2 (am_dt kX3_init 51 rfl) rfl rfl ?_
  obtain ⟨f50, k⟩ := k
  refine Ev.putR' (ci := 3) (k := 12) (am_dt kX3_init 52 rfl) (by decide) (by decide) wd_191 rfl rfl rfl rfl f50 f47 (fun h51 eh51 => ?_)
  have k := k h51 eh51
  have f47 := kR eh51 f47
  refine Ev.aload_n 1 (am_dt kX3_init 53 rfl) rfl rfl ?_
  refine Ev.aload_n 2 (am_dt kX3_init 54 rfl) rfl rfl ?_
  obtain ⟨f52, k⟩ := k
  obtain ⟨f53, k⟩ := k
  refine Ev.getR (ci := 6) (k := 0) (am_dt kX3_init 55 rfl) (by decide) (by decide) rfl wd_192 f52 f53 ?_
  refine Ev.putR' (ci := 3) (k := 13) (am_dt kX3_init 56 rfl) (by decide) (by decide) wd_193 rfl rfl rfl rfl f53 f47 (fun h54 eh54 => ?_)
  have k := k h54 eh54
  have f47 := kR eh54 f47
  have f52 := kR eh54 f52
  refine Ev.aload_n 1 (am_dt kX3_init 57 rfl) rfl rfl ?_
  refine Ev.aload_n 2 (am_dt kX3_init 58 rfl) rfl rfl ?_
  obtain ⟨f55, k⟩ := k
  refine Ev.getR (ci := 6) (k := 0) (am_dt kX3_init 59 rfl) (by decide) (by decide) rfl wd_192 f52 f55 ?_
  obtain ⟨f56, k⟩ := k
  obtain ⟨f57, k⟩ := k
  refine Ev.getR (ci := 2) (k := 1) (am_dt kX3_init 60 rfl) (by decide) (by decide) rfl wd_194 f56 f57 ?_
  refine Ev.putR' (ci := 3) (k := 14) (am_dt kX3_init 61 rfl) (by decide) (by decide) wd_195 rfl rfl rfl rfl f57 f47 (fun h58 eh58 => ?_)
  have k := k h58 eh58
  have f47 := kR eh58 f47
  have f52 := kR eh58 f52
  have f56 := kR eh58 f56
  exact Ev.vret (am_dt kX3_init 62 rfl) rfl k
set_option maxRecDepth 20000 in
set_option maxHeartbeats 2000000 in
theorem bX3_begin_0 {w : am_W} {d : Nat} {h : am_H} {Q : Option Value → am_H → Prop} {a0 : Nat} {a1 : Nat} {x2 : Int32} {a3 : Nat} {a4 : Nat}  (k : (am_L 3 a0 h) ∧ ((a1 ≠ 0) ∧ (∀ h3 : am_H, h3 = sR h a0 12 a1 → (∀ h4 : am_H, h4 = sI h3 a0 15 x2 → ((a3 ≠ 0) ∧ (∀ h6 : am_H, h6 = sR h4 a0 13 a3 → ((a4 ≠ 0) ∧ (∀ h8 : am_H, h8 = sR h6 a0 14 a4 → (Ev w (am_Z w) mX3_begin (d + 1) 24 [(0, .ref a0), (3, .ref a3), (5, .int 0)] [] h8 Q))))))))) : EvM w mX3_begin (d + 1) [.ref a0, .ref a1, .int x2, .ref a3, .ref a4] h Q := by
  show Ev w (am_Z w) mX3_begin (d + 1) 0 [(0, .ref a0), (1, .ref a1), (2, .int x2), (3, .ref a3), (4, .ref a4)] [] h Q
  refine Ev.aload_n 0 (am_dt kX3_begin 0 rfl) rfl rfl ?_
  refine Ev.aload_n 1 (am_dt kX3_begin 1 rfl) rfl rfl ?_
  obtain ⟨f1, k⟩ := k
  obtain ⟨f2, k⟩ := k
  refine Ev.putR' (ci := 3) (k := 12) (am_dt kX3_begin 2 rfl) (by decide) (by decide) wd_191 rfl rfl rfl rfl f2 f1.1 (fun h3 eh3 => ?_)
  have k := k h3 eh3
  have f1 := am_LsR eh3 (by decide) f1
  refine Ev.aload_n 0 (am_dt kX3_begin 3 rfl) rfl rfl ?_
  refine Ev.iload_n 2 (am_dt kX3_begin 4 rfl) rfl rfl ?_
  refine Ev.putI' (ci := 3) (k := 15) (am_dt kX3_begin 5 rfl) (by decide) (by decide) wd_199 rfl rfl rfl rfl f1.1 (fun h4 eh4 => ?_)
  have k := k h4 eh4
  have f1 := am_LsI eh4 f1
  refine Ev.aload_n 0 (am_dt kX3_begin 6 rfl) rfl rfl ?_
  refine Ev.aload_n 3 (am_dt kX3_begin 7 rfl) rfl rfl ?_
  obtain ⟨f5, k⟩ := k
  refine Ev.putR' (ci := 3) (k := 13) (am_dt kX3_begin 8 rfl) (by decide) (by decide) wd_193 rfl rfl rfl rfl f5 f1.1 (fun h6 eh6 => ?_)
  have k := k h6 eh6
  have f1 := am_LsR eh6 (by decide) f1
  refine Ev.aload_n 0 (am_dt kX3_begin 9 rfl) rfl rfl ?_
  refine Ev.aload 4 (am_dt kX3_begin 10 rfl) rfl ?_
  obtain ⟨f7, k⟩ := k
  refine Ev.putR' (ci := 3) (k := 14) (am_dt kX3_begin 11 rfl) (by decide) (by decide) wd_195 rfl rfl rfl rfl f7 f1.1 (fun h8 eh8 => ?_)
  have k := k h8 eh8
  have f1 := am_LsR eh8 (by decide) f1
  refine Ev.iconst (v := 0) (am_dt kX3_begin 12 rfl) (by decide) ?_
  refine Ev.istore (lv' := [(5, .int 0), (0, .ref a0), (1, .ref a1), (2, .int x2), (3, .ref a3), (4, .ref a4)]) (am_dt kX3_begin 13 rfl) (by decide) rfl ?_
  exact Ev.sub [1, 4, 0] rfl k
set_option maxRecDepth 20000 in
set_option maxHeartbeats 2000000 in
theorem bX3_begin_24 {w : am_W} {d : Nat} {h : am_H} {Q : Option Value → am_H → Prop} {a0 : Nat} {a3 : Nat} {x5 : Int32}  (k : (am_L 2 a3 h) ∧ (((hI h a3 5) ≤ x5 → ((am_L 3 a0 h) ∧ (EvM w mX9_set d [.ref (a0 + 1), .int 0, .int 0] h (fun r4 h3 => r4 = none ∧ ((am_L 3 a0 h3) ∧ (EvM w mX9_set d [.ref (a0 + 1), .int 1, .int 0] h3 (fun r7 h6 => r7 = none ∧ ((am_L 3 a0 h6) ∧ (EvM w mX0_empty d [.ref (a0 + 4)] h6 (fun r10 h9 => r10 = none ∧ ((am_L 3 a0 h9) ∧ (EvM w mX0_empty d [.ref (a0 + 6)] h9 (fun r13 h12 => r13 = none ∧ ((am_L 3 a0 h12) ∧ (∀ h15 : am_H, h15 = sI h12 a0 10 0 → (∀ h16 : am_H, h16 = sI h15 a0 11 0 → (∀ h17 : am_H, h17 = sI h16 a0 16 ((-1)) → (∀ h18 : am_H, h18 = sI h17 a0 17 1440 → (Q none h18))))))))))))))))))) ∧ (¬ (hI h a3 5) ≤ x5 → ((am_L 3 a0 h) ∧ (EvM w mX9_set d [.ref (a0 + 8), .int x5, .int 1440] h (fun r21 h20 => r21 = none ∧ ((am_L 3 a0 h20) ∧ (EvM w mX9_set d [.ref (a0 + 9), .int x5, .int ((-1))] h20 (fun r24 h23 => r24 = none ∧ (Ev w (am_Z w) mX3_begin (d + 1) 24 [(0, .ref a0), (3, .ref a3), (5, .int (x5 + 1))] [] h23 Q)))))))))) : Ev w (am_Z w) mX3_begin (d + 1) 24 [(0, .ref a0), (3, .ref a3), (5, .int x5)] [] h Q := by
  refine Ev.iload 2 (am_dt kX3_begin 14 rfl) rfl ?_
  refine Ev.aload_n 1 (am_dt kX3_begin 15 rfl) rfl rfl ?_
  obtain ⟨f1, k⟩ := k
  refine Ev.getI (ci := 2) (k := 5) (am_dt kX3_begin 16 rfl) (by decide) (by decide) rfl wd_200 f1.1 ?_
  refine Ev.icmp_ge (tgt := 61) (am_dt kX3_begin 17 rfl) (by decide) (fun c => ?_) (fun c => ?_)
  · have k := k.1 c
    refine Ev.aload_n 0 (am_dt kX3_begin 30 rfl) rfl rfl ?_
    obtain ⟨f2, k⟩ := k
    refine Ev.getRe (ci := 3) (k := 7) (r := a0 + 1) (am_dt kX3_begin 31 rfl) (by decide) (by decide) rfl wd_178 f2.1 (am_L.r f2 0 rfl) (by omega) ?_
    refine Ev.iconst (v := 0) (am_dt kX3_begin 32 rfl) (by decide) ?_
    refine Ev.iconst (v := 0) (am_dt kX3_begin 33 rfl) (by decide) ?_
    refine Ev.callSN (v := mX9_set) (As := [.ref (a0 + 1), .int 0, .int 0]) (st := []) okX9_set wd_16 wd_201 (am_dt kX3_begin 34 rfl) rfl rfl (Nat.le_of_ble_eq_true rfl) (Nat.le_of_ble_eq_true rfl) ?_
    refine EvM.mono k (fun r4 h3 k => ?_)
    obtain ⟨rfl, k⟩ := k
    show Ev w _ _ _ 70 _ [] _ _
    refine Ev.aload_n 0 (am_dt kX3_begin 35 rfl) rfl rfl ?_
    obtain ⟨f5, k⟩ := k
    refine Ev.getRe (ci := 3) (k := 7) (r := a0 + 1) (am_dt kX3_begin 36 rfl) (by decide) (by decide) rfl wd_178 f5.1 (am_L.r f5 0 rfl) (by omega) ?_
    refine Ev.iconst (v := 1) (am_dt kX3_begin 37 rfl) (by decide) ?_
    refine Ev.iconst (v := 0) (am_dt kX3_begin 38 rfl) (by decide) ?_
    refine Ev.callSN (v := mX9_set) (As := [.ref (a0 + 1), .int 1, .int 0]) (st := []) okX9_set wd_16 wd_201 (am_dt kX3_begin 39 rfl) rfl rfl (Nat.le_of_ble_eq_true rfl) (Nat.le_of_ble_eq_true rfl) ?_
    refine EvM.mono k (fun r7 h6 k => ?_)
    obtain ⟨rfl, k⟩ := k
    show Ev w _ _ _ 79 _ [] _ _
    refine Ev.aload_n 0 (am_dt kX3_begin 40 rfl) rfl rfl ?_
    obtain ⟨f8, k⟩ := k
    refine Ev.getRe (ci := 3) (k := 0) (r := a0 + 4) (am_dt kX3_begin 41 rfl) (by decide) (by decide) rfl wd_184 f8.1 (am_L.r f8 3 rfl) (by omega) ?_
    refine Ev.callV (ci := 0) (v := mX0_empty) (As := []) (st := []) okX0_empty wd_202 wd_203 wd_204 (am_dt kX3_begin 42 rfl) (by decide) rfl rfl (Nat.le_of_ble_eq_true rfl) (Nat.le_of_ble_eq_true rfl) (am_L.s f8 3 rfl) ?_
    refine EvM.mono k (fun r10 h9 k => ?_)
    obtain ⟨rfl, k⟩ := k
    show Ev w _ _ _ 86 _ [] _ _
    refine Ev.aload_n 0 (am_dt kX3_begin 43 rfl) rfl rfl ?_
    obtain ⟨f11, k⟩ := k
    refine Ev.getRe (ci := 3) (k := 1) (r := a0 + 6) (am_dt kX3_begin 44 rfl) (by decide) (by decide) rfl wd_185 f11.1 (am_L.r f11 4 rfl) (by omega) ?_
    refine Ev.callV (ci := 0) (v := mX0_empty) (As := []) (st := []) okX0_empty wd_202 wd_203 wd_204 (am_dt kX3_begin 45 rfl) (by decide) rfl rfl (Nat.le_of_ble_eq_true rfl) (Nat.le_of_ble_eq_true rfl) (am_L.s f11 4 rfl) ?_
    refine EvM.mono k (fun r13 h12 k => ?_)
    obtain ⟨rfl, k⟩ := k
    show Ev w _ _ _ 93 _ [] _ _
    refine Ev.aload_n 0 (am_dt kX3_begin 46 rfl) rfl rfl ?_
    refine Ev.iconst (v := 0) (am_dt kX3_begin 47 rfl) (by decide) ?_
    obtain ⟨f14, k⟩ := k
    refine Ev.putI' (ci := 3) (k := 10) (am_dt kX3_begin 48 rfl) (by decide) (by decide) wd_205 rfl rfl rfl rfl f14.1 (fun h15 eh15 => ?_)
    have k := k h15 eh15
    have f14 := am_LsI eh15 f14
    refine Ev.aload_n 0 (am_dt kX3_begin 49 rfl) rfl rfl ?_
    refine Ev.iconst (v := 0) (am_dt kX3_begin 50 rfl) (by decide) ?_
    refine Ev.putI' (ci := 3) (k := 11) (am_dt kX3_begin 51 rfl) (by decide) (by decide) wd_206 rfl rfl rfl rfl f14.1 (fun h16 eh16 => ?_)
    have k := k h16 eh16
    have f14 := am_LsI eh16 f14
    refine Ev.aload_n 0 (am_dt kX3_begin 52 rfl) rfl rfl ?_
    refine Ev.iconst (v := (-1)) (am_dt kX3_begin 53 rfl) (by decide) ?_
    refine Ev.putI' (ci := 3) (k := 16) (am_dt kX3_begin 54 rfl) (by decide) (by decide) wd_207 rfl rfl rfl rfl f14.1 (fun h17 eh17 => ?_)
    have k := k h17 eh17
    have f14 := am_LsI eh17 f14
    refine Ev.aload_n 0 (am_dt kX3_begin 55 rfl) rfl rfl ?_
    refine Ev.sipush (v := 1440) (am_dt kX3_begin 56 rfl) (by decide) ?_
    refine Ev.putI' (ci := 3) (k := 17) (am_dt kX3_begin 57 rfl) (by decide) (by decide) wd_208 rfl rfl rfl rfl f14.1 (fun h18 eh18 => ?_)
    have k := k h18 eh18
    have f14 := am_LsI eh18 f14
    exact Ev.vret (am_dt kX3_begin 58 rfl) rfl k
  · have k := k.2 c
    refine Ev.aload_n 0 (am_dt kX3_begin 18 rfl) rfl rfl ?_
    obtain ⟨f19, k⟩ := k
    refine Ev.getRe (ci := 3) (k := 2) (r := a0 + 8) (am_dt kX3_begin 19 rfl) (by decide) (by decide) rfl wd_186 f19.1 (am_L.r f19 5 rfl) (by omega) ?_
    refine Ev.iload 2 (am_dt kX3_begin 20 rfl) rfl ?_
    refine Ev.sipush (v := 1440) (am_dt kX3_begin 21 rfl) (by decide) ?_
    refine Ev.callSN (v := mX9_set) (As := [.ref (a0 + 8), .int x5, .int 1440]) (st := []) okX9_set wd_16 wd_201 (am_dt kX3_begin 22 rfl) rfl rfl (Nat.le_of_ble_eq_true rfl) (Nat.le_of_ble_eq_true rfl) ?_
    refine EvM.mono k (fun r21 h20 k => ?_)
    obtain ⟨rfl, k⟩ := k
    show Ev w _ _ _ 45 _ [] _ _
    refine Ev.aload_n 0 (am_dt kX3_begin 23 rfl) rfl rfl ?_
    obtain ⟨f22, k⟩ := k
    refine Ev.getRe (ci := 3) (k := 3) (r := a0 + 9) (am_dt kX3_begin 24 rfl) (by decide) (by decide) rfl wd_187 f22.1 (am_L.r f22 6 rfl) (by omega) ?_
    refine Ev.iload 2 (am_dt kX3_begin 25 rfl) rfl ?_
    refine Ev.iconst (v := (-1)) (am_dt kX3_begin 26 rfl) (by decide) ?_
    refine Ev.callSN (v := mX9_set) (As := [.ref (a0 + 9), .int x5, .int ((-1))]) (st := []) okX9_set wd_16 wd_201 (am_dt kX3_begin 27 rfl) rfl rfl (Nat.le_of_ble_eq_true rfl) (Nat.le_of_ble_eq_true rfl) ?_
    refine EvM.mono k (fun r24 h23 k => ?_)
    obtain ⟨rfl, k⟩ := k
    show Ev w _ _ _ 55 _ [] _ _
    refine Ev.iinc (v := x5 + 1) (lv' := [(5, .int (x5 + 1)), (0, .ref a0), (3, .ref a3)]) 2 (am_dt kX3_begin 28 rfl) rfl rfl (by decide) rfl ?_
    refine Ev.goto (tgt := 24) (am_dt kX3_begin 29 rfl) (by decide) ?_
    exact Ev.sub [1, 2, 0] rfl k
set_option maxRecDepth 20000 in
set_option maxHeartbeats 2000000 in
theorem bX3_letGoHome_0 {w : am_W} {d : Nat} {h : am_H} {Q : Option Value → am_H → Prop} {a0 : Nat} {x1 : Int32} {x2 : Int32}  (k : (am_L 3 a0 h) ∧ (∀ h2 : am_H, h2 = sI h a0 16 x1 → (∀ h3 : am_H, h3 = sI h2 a0 17 (x2 + 1) → (Q none h3)))) : EvM w mX3_letGoHome d [.ref a0, .int x1, .int x2] h Q := by
  show Ev w (am_Z w) mX3_letGoHome d 0 [(0, .ref a0), (1, .int x1), (2, .int x2)] [] h Q
  refine Ev.aload_n 0 (am_dt kX3_letGoHome 0 rfl) rfl rfl ?_
  refine Ev.iload_n 1 (am_dt kX3_letGoHome 1 rfl) rfl rfl ?_
  obtain ⟨f1, k⟩ := k
  refine Ev.putI' (ci := 3) (k := 16) (am_dt kX3_letGoHome 2 rfl) (by decide) (by decide) wd_207 rfl rfl rfl rfl f1.1 (fun h2 eh2 => ?_)
  have k := k h2 eh2
  have f1 := am_LsI eh2 f1
  refine Ev.aload_n 0 (am_dt kX3_letGoHome 3 rfl) rfl rfl ?_
  refine Ev.iload_n 2 (am_dt kX3_letGoHome 4 rfl) rfl rfl ?_
  refine Ev.iconst (v := 1) (am_dt kX3_letGoHome 5 rfl) (by decide) ?_
  refine Ev.iadd (am_dt kX3_letGoHome 6 rfl) ?_
  refine Ev.putI' (ci := 3) (k := 17) (am_dt kX3_letGoHome 7 rfl) (by decide) (by decide) wd_208 rfl rfl rfl rfl f1.1 (fun h3 eh3 => ?_)
  have k := k h3 eh3
  have f1 := am_LsI eh3 f1
  exact Ev.vret (am_dt kX3_letGoHome 8 rfl) rfl k
set_option maxRecDepth 20000 in
set_option maxHeartbeats 2000000 in
theorem bX3_run_0 {w : am_W} {d : Nat} {h : am_H} {Q : Option Value → am_H → Prop} {a0 : Nat} {x1 : Int32}  (k : Ev w (am_Z w) mX3_run (d + 1) 2 [(0, .ref a0), (1, .int x1), (2, .int 0)] [] h Q) : EvM w mX3_run (d + 1) [.ref a0, .int x1] h Q := by
  show Ev w (am_Z w) mX3_run (d + 1) 0 [(0, .ref a0), (1, .int x1)] [] h Q
  refine Ev.iconst (v := 0) (am_dt kX3_run 0 rfl) (by decide) ?_
  refine Ev.istore_n (lv' := [(2, .int 0), (0, .ref a0), (1, .int x1)]) (am_dt kX3_run 1 rfl) rfl (by decide) rfl ?_
  exact Ev.sub [1, 2, 0] rfl k
set_option maxRecDepth 20000 in
set_option maxHeartbeats 2000000 in
theorem bX3_run_2 {w : am_W} {d : Nat} {h : am_H} {Q : Option Value → am_H → Prop} {a0 : Nat} {x1 : Int32} {x2 : Int32}  (k : (x1 ≤ x2 → (Q none h)) ∧ (¬ x1 ≤ x2 → ((am_L 3 a0 h) ∧ ((x2 = (hI h a0 17) → ((hR h a0 13 ≠ 0) ∧ (EvM w mX0_leave d [.ref (a0 + 4), .int (hI h a0 16), .ref (hR h a0 13)] h (fun r4 h3 => r4 = none ∧ ((am_L 3 a0 h3) ∧ ((hR h3 a0 13 ≠ 0) ∧ (EvM w mX0_leave d [.ref (a0 + 6), .int (hI h3 a0 16), .ref (hR h3 a0 13)] h3 (fun r8 h7 => r8 = none ∧ ((am_L 3 a0 h7) ∧ (EvM w mX3_come d [.ref a0, .int x2] h7 (fun r11 h10 => r11 = none ∧ (Ev w (am_Z w) mX3_run (d + 1) 52 [(0, .ref a0), (1, .int x1), (2, .int x2), (3, .int 0)] [] h10 Q)))))))))))) ∧ (¬ x2 = (hI h a0 17) → (EvM w mX3_come d [.ref a0, .int x2] h (fun r13 h12 => r13 = none ∧ (Ev w (am_Z w) mX3_run (d + 1) 52 [(0, .ref a0), (1, .int x1), (2, .int x2), (3, .int 0)] [] h12 Q)))))))) : Ev w (am_Z w) mX3_run (d + 1) 2 [(0, .ref a0), (1, .int x1), (2, .int x2)] [] h Q := by
  refine Ev.iload_n 2 (am_dt kX3_run 2 rfl) rfl rfl ?_
  refine Ev.iload_n 1 (am_dt kX3_run 3 rfl) rfl rfl ?_
  refine Ev.icmp_ge (tgt := 97) (am_dt kX3_run 4 rfl) (by decide) (fun c => ?_) (fun c => ?_)
  · have k := k.1 c
    exact Ev.vret (am_dt kX3_run 51 rfl) rfl k
  · have k := k.2 c
    refine Ev.iload_n 2 (am_dt kX3_run 5 rfl) rfl rfl ?_
    refine Ev.aload_n 0 (am_dt kX3_run 6 rfl) rfl rfl ?_
    obtain ⟨f1, k⟩ := k
    refine Ev.getI (ci := 3) (k := 17) (am_dt kX3_run 7 rfl) (by decide) (by decide) rfl wd_208 f1.1 ?_
    refine Ev.icmp_ne (tgt := 45) (am_dt kX3_run 8 rfl) (by decide) (fun c => ?_) (fun c => ?_)
    · have k := k.2 c
      refine Ev.aload_n 0 (am_dt kX3_run 23 rfl) rfl rfl ?_
      refine Ev.iload_n 2 (am_dt kX3_run 24 rfl) rfl rfl ?_
      refine Ev.callV (ci := 3) (v := mX3_come) (As := [.int x2]) (st := []) okX3_come wd_212 wd_213 wd_214 (am_dt kX3_run 25 rfl) (by decide) rfl rfl (Nat.le_of_ble_eq_true rfl) (Nat.le_of_ble_eq_true rfl) f1.1 ?_
      refine EvM.mono k (fun r13 h12 k => ?_)
      obtain ⟨rfl, k⟩ := k
      show Ev w _ _ _ 50 _ [] _ _
      refine Ev.iconst (v := 0) (am_dt kX3_run 26 rfl) (by decide) ?_
      refine Ev.istore_n (lv' := [(3, .int 0), (0, .ref a0), (1, .int x1), (2, .int x2)]) (am_dt kX3_run 27 rfl) rfl (by decide) rfl ?_
      exact Ev.sub [1, 2, 3, 0] rfl k
    · have k := k.1 c
      refine Ev.aload_n 0 (am_dt kX3_run 9 rfl) rfl rfl ?_
      refine Ev.getRe (ci := 3) (k := 0) (r := a0 + 4) (am_dt kX3_run 10 rfl) (by decide) (by decide) rfl wd_184 f1.1 (am_L.r f1 3 rfl) (by omega) ?_
      refine Ev.aload_n 0 (am_dt kX3_run 11 rfl) rfl rfl ?_
      refine Ev.getI (ci := 3) (k := 16) (am_dt kX3_run 12 rfl) (by decide) (by decide) rfl wd_207 f1.1 ?_
      refine Ev.aload_n 0 (am_dt kX3_run 13 rfl) rfl rfl ?_
      obtain ⟨f2, k⟩ := k
      refine Ev.getR (ci := 3) (k := 13) (am_dt kX3_run 14 rfl) (by decide) (by decide) rfl wd_193 f1.1 f2 ?_
      refine Ev.callV (ci := 0) (v := mX0_leave) (As := [.int (hI h a0 16), .ref (hR h a0 13)]) (st := []) okX0_leave wd_209 wd_210 wd_211 (am_dt kX3_run 15 rfl) (by decide) rfl rfl (Nat.le_of_ble_eq_true rfl) (Nat.le_of_ble_eq_true rfl) (am_L.s f1 3 rfl) ?_
      refine EvM.mono k (fun r4 h3 k => ?_)
      obtain ⟨rfl, k⟩ := k
      show Ev w _ _ _ 30 _ [] _ _
      refine Ev.aload_n 0 (am_dt kX3_run 16 rfl) rfl rfl ?_
      obtain ⟨f5, k⟩ := k
      refine Ev.getRe (ci := 3) (k := 1) (r := a0 + 6) (am_dt kX3_run 17 rfl) (by decide) (by decide) rfl wd_185 f5.1 (am_L.r f5 4 rfl) (by omega) ?_
      refine Ev.aload_n 0 (am_dt kX3_run 18 rfl) rfl rfl ?_
      refine Ev.getI (ci := 3) (k := 16) (am_dt kX3_run 19 rfl) (by decide) (by decide) rfl wd_207 f5.1 ?_
      refine Ev.aload_n 0 (am_dt kX3_run 20 rfl) rfl rfl ?_
      obtain ⟨f6, k⟩ := k
      refine Ev.getR (ci := 3) (k := 13) (am_dt kX3_run 21 rfl) (by decide) (by decide) rfl wd_193 f5.1 f6 ?_
      refine Ev.callV (ci := 0) (v := mX0_leave) (As := [.int (hI h3 a0 16), .ref (hR h3 a0 13)]) (st := []) okX0_leave wd_209 wd_210 wd_211 (am_dt kX3_run 22 rfl) (by decide) rfl rfl (Nat.le_of_ble_eq_true rfl) (Nat.le_of_ble_eq_true rfl) (am_L.s f5 4 rfl) ?_
      refine EvM.mono k (fun r8 h7 k => ?_)
      obtain ⟨rfl, k⟩ := k
      show Ev w _ _ _ 45 _ [] _ _
      refine Ev.aload_n 0 (am_dt kX3_run 23 rfl) rfl rfl ?_
      refine Ev.iload_n 2 (am_dt kX3_run 24 rfl) rfl rfl ?_
      obtain ⟨f9, k⟩ := k
      refine Ev.callV (ci := 3) (v := mX3_come) (As := [.int x2]) (st := []) okX3_come wd_212 wd_213 wd_214 (am_dt kX3_run 25 rfl) (by decide) rfl rfl (Nat.le_of_ble_eq_true rfl) (Nat.le_of_ble_eq_true rfl) f9.1 ?_
      refine EvM.mono k (fun r11 h10 k => ?_)
      obtain ⟨rfl, k⟩ := k
      show Ev w _ _ _ 50 _ [] _ _
      refine Ev.iconst (v := 0) (am_dt kX3_run 26 rfl) (by decide) ?_
      refine Ev.istore_n (lv' := [(3, .int 0), (0, .ref a0), (1, .int x1), (2, .int x2)]) (am_dt kX3_run 27 rfl) rfl (by decide) rfl ?_
      exact Ev.sub [1, 2, 3, 0] rfl k
set_option maxRecDepth 20000 in
set_option maxHeartbeats 2000000 in
theorem bX3_run_52 {w : am_W} {d : Nat} {h : am_H} {Q : Option Value → am_H → Prop} {a0 : Nat} {x1 : Int32} {x2 : Int32} {x3 : Int32}  (k : (am_L 3 a0 h) ∧ ((hR h a0 13 ≠ 0) ∧ ((am_L 2 (hR h a0 13) h) ∧ (((hI h (hR h a0 13) 5) ≤ x3 → (EvM w mX3_soonest d [.ref a0, .int x2] h (fun r5 h4 => ∃ v6 : Int32, r5 = some (.int v6) ∧ (Ev w (am_Z w) mX3_run (d + 1) 2 [(0, .ref a0), (1, .int x1), (2, .int (if (x2 + 1) < v6 then v6 else (x2 + 1)))] [] h4 Q)))) ∧ (¬ (hI h (hR h a0 13) 5) ≤ x3 → (EvM w mX3_wouldRing d [.ref a0, .int x2] h (fun r8 h7 => ∃ v9 : Int32, r8 = some (.int v9) ∧ ((v9 = 0 → ((am_L 3 a0 h7) ∧ (EvM w mX3_soonest d [.ref a0, .int x2] h7 (fun r12 h11 => ∃ v13 : Int32, r12 = some (.int v13) ∧ (Ev w (am_Z w) mX3_run (d + 1) 2 [(0, .ref a0), (1, .int x1), (2, .int (if (x2 + 1) < v13 then v13 else (x2 + 1)))] [] h11 Q))))) ∧ (¬ v9 = 0 → ((am_L 3 a0 h7) ∧ (EvM w mX3_goOver d [.ref a0, .int x2] h7 (fun r16 h15 => r16 = none ∧ (Ev w (am_Z w) mX3_run (d + 1) 52 [(0, .ref a0), (1, .int x1), (2, .int x2), (3, .int (x3 + 1))] [] h15 Q))))))))))))) : Ev w (am_Z w) mX3_run (d + 1) 52 [(0, .ref a0), (1, .int x1), (2, .int x2), (3, .int x3)] [] h Q := by
  refine Ev.iload_n 3 (am_dt kX3_run 28 rfl) rfl rfl ?_
  refine Ev.aload_n 0 (am_dt kX3_run 29 rfl) rfl rfl ?_
  obtain ⟨f1, k⟩ := k
  obtain ⟨f2, k⟩ := k
  refine Ev.getR (ci := 3) (k := 13) (am_dt kX3_run 30 rfl) (by decide) (by decide) rfl wd_193 f1.1 f2 ?_
  obtain ⟨f3, k⟩ := k
  refine Ev.getI (ci := 2) (k := 5) (am_dt kX3_run 31 rfl) (by decide) (by decide) rfl wd_200 f3.1 ?_
  refine Ev.icmp_ge (tgt := 82) (am_dt kX3_run 32 rfl) (by decide) (fun c => ?_) (fun c => ?_)
  · have k := k.1 c
    refine Ev.iload_n 2 (am_dt kX3_run 42 rfl) rfl rfl ?_
    refine Ev.iconst (v := 1) (am_dt kX3_run 43 rfl) (by decide) ?_
    refine Ev.iadd (am_dt kX3_run 44 rfl) ?_
    refine Ev.aload_n 0 (am_dt kX3_run 45 rfl) rfl rfl ?_
    refine Ev.iload_n 2 (am_dt kX3_run 46 rfl) rfl rfl ?_
    refine Ev.callV (ci := 3) (v := mX3_soonest) (As := [.int x2]) (st := [.int (x2 + 1)]) okX3_soonest wd_215 wd_216 wd_217 (am_dt kX3_run 47 rfl) (by decide) rfl rfl (Nat.le_of_ble_eq_true rfl) (Nat.le_of_ble_eq_true rfl) f1.1 ?_
    refine EvM.mono k (fun r5 h4 k => ?_)
    obtain ⟨v6, rfl, k⟩ := k
    show Ev w _ _ _ 90 _ [.int v6, .int (x2 + 1)] _ _
    refine Ev.mmax wd_181 wd_5 wd_6 wd_7 (am_dt kX3_run 48 rfl) (Nat.le_of_ble_eq_true rfl) ?_
    refine Ev.istore_n (lv' := [(2, .int (if (x2 + 1) < v6 then v6 else (x2 + 1))), (0, .ref a0), (1, .int x1), (3, .int x3)]) (am_dt kX3_run 49 rfl) rfl (by decide) rfl ?_
    refine Ev.goto (tgt := 2) (am_dt kX3_run 50 rfl) (by decide) ?_
    exact Ev.sub [1, 2, 0] rfl k
  · have k := k.2 c
    refine Ev.aload_n 0 (am_dt kX3_run 33 rfl) rfl rfl ?_
    refine Ev.iload_n 2 (am_dt kX3_run 34 rfl) rfl rfl ?_
    refine Ev.callV (ci := 3) (v := mX3_wouldRing) (As := [.int x2]) (st := []) okX3_wouldRing wd_218 wd_219 wd_220 (am_dt kX3_run 35 rfl) (by decide) rfl rfl (Nat.le_of_ble_eq_true rfl) (Nat.le_of_ble_eq_true rfl) f1.1 ?_
    refine EvM.mono k (fun r8 h7 k => ?_)
    obtain ⟨v9, rfl, k⟩ := k
    show Ev w _ _ _ 68 _ [.int v9] _ _
    refine Ev.if_eq (tgt := 82) (am_dt kX3_run 36 rfl) (by decide) (fun c => ?_) (fun c => ?_)
    · have k := k.1 c
      refine Ev.iload_n 2 (am_dt kX3_run 42 rfl) rfl rfl ?_
      refine Ev.iconst (v := 1) (am_dt kX3_run 43 rfl) (by decide) ?_
      refine Ev.iadd (am_dt kX3_run 44 rfl) ?_
      refine Ev.aload_n 0 (am_dt kX3_run 45 rfl) rfl rfl ?_
      refine Ev.iload_n 2 (am_dt kX3_run 46 rfl) rfl rfl ?_
      obtain ⟨f10, k⟩ := k
      refine Ev.callV (ci := 3) (v := mX3_soonest) (As := [.int x2]) (st := [.int (x2 + 1)]) okX3_soonest wd_215 wd_216 wd_217 (am_dt kX3_run 47 rfl) (by decide) rfl rfl (Nat.le_of_ble_eq_true rfl) (Nat.le_of_ble_eq_true rfl) f10.1 ?_
      refine EvM.mono k (fun r12 h11 k => ?_)
      obtain ⟨v13, rfl, k⟩ := k
      show Ev w _ _ _ 90 _ [.int v13, .int (x2 + 1)] _ _
      refine Ev.mmax wd_181 wd_5 wd_6 wd_7 (am_dt kX3_run 48 rfl) (Nat.le_of_ble_eq_true rfl) ?_
      refine Ev.istore_n (lv' := [(2, .int (if (x2 + 1) < v13 then v13 else (x2 + 1))), (0, .ref a0), (1, .int x1), (3, .int x3)]) (am_dt kX3_run 49 rfl) rfl (by decide) rfl ?_
      refine Ev.goto (tgt := 2) (am_dt kX3_run 50 rfl) (by decide) ?_
      exact Ev.sub [1, 2, 0] rfl k
    · have k := k.2 c
      refine Ev.aload_n 0 (am_dt kX3_run 37 rfl) rfl rfl ?_
      refine Ev.iload_n 2 (am_dt kX3_run 38 rfl) rfl rfl ?_
      obtain ⟨f14, k⟩ := k
      refine Ev.callV (ci := 3) (v := mX3_goOver) (As := [.int x2]) (st := []) okX3_goOver wd_221 wd_222 wd_223 (am_dt kX3_run 39 rfl) (by decide) rfl rfl (Nat.le_of_ble_eq_true rfl) (Nat.le_of_ble_eq_true rfl) f14.1 ?_
      refine EvM.mono k (fun r16 h15 k => ?_)
      obtain ⟨rfl, k⟩ := k
      show Ev w _ _ _ 76 _ [] _ _
      refine Ev.iinc (v := x3 + 1) (lv' := [(3, .int (x3 + 1)), (0, .ref a0), (1, .int x1), (2, .int x2)]) 3 (am_dt kX3_run 40 rfl) rfl rfl (by decide) rfl ?_
      refine Ev.goto (tgt := 52) (am_dt kX3_run 41 rfl) (by decide) ?_
      exact Ev.sub [1, 2, 3, 0] rfl k
set_option maxRecDepth 20000 in
set_option maxHeartbeats 2000000 in
theorem bX3_soonest_0 {w : am_W} {d : Nat} {h : am_H} {Q : Option Value → am_H → Prop} {a0 : Nat} {x1 : Int32}  (k : (am_L 3 a0 h) ∧ (((hI h a0 17) ≤ x1 → (Ev w (am_Z w) mX3_soonest (d + 1) 18 [(0, .ref a0), (1, .int x1)] [.int 1440] h Q)) ∧ (¬ (hI h a0 17) ≤ x1 → (Ev w (am_Z w) mX3_soonest (d + 1) 18 [(0, .ref a0), (1, .int x1)] [.int (hI h a0 17)] h Q)))) : EvM w mX3_soonest (d + 1) [.ref a0, .int x1] h Q := by
  show Ev w (am_Z w) mX3_soonest (d + 1) 0 [(0, .ref a0), (1, .int x1)] [] h Q
  refine Ev.aload_n 0 (am_dt kX3_soonest 0 rfl) rfl rfl ?_
  obtain ⟨f1, k⟩ := k
  refine Ev.getI (ci := 3) (k := 17) (am_dt kX3_soonest 1 rfl) (by decide) (by decide) rfl wd_208 f1.1 ?_
  refine Ev.iload_n 1 (am_dt kX3_soonest 2 rfl) rfl rfl ?_
  refine Ev.icmp_le (tgt := 15) (am_dt kX3_soonest 3 rfl) (by decide) (fun c => ?_) (fun c => ?_)
  · have k := k.1 c
    refine Ev.sipush (v := 1440) (am_dt kX3_soonest 7 rfl) (by decide) ?_
    exact k
  · have k := k.2 c
    refine Ev.aload_n 0 (am_dt kX3_soonest 4 rfl) rfl rfl ?_
    refine Ev.getI (ci := 3) (k := 17) (am_dt kX3_soonest 5 rfl) (by decide) (by decide) rfl wd_208 f1.1 ?_
    refine Ev.goto (tgt := 18) (am_dt kX3_soonest 6 rfl) (by decide) ?_
    exact k
set_option maxRecDepth 20000 in
set_option maxHeartbeats 2000000 in
theorem bX3_soonest_18 {w : am_W} {d : Nat} {h : am_H} {Q : Option Value → am_H → Prop} {a0 : Nat} {x1 : Int32} {s0 : Int32} (k : (am_L 3 a0 h) ∧ ((hR h a0 13 ≠ 0) ∧ ((am_L 2 (hR h a0 13) h) ∧ (((hI h (hR h a0 13) 5) ≤ (hI h a0 11) → (Ev w (am_Z w) mX3_soonest (d + 1) 54 [(0, .ref a0), (1, .int x1), (2, .int s0), (3, .int 0), (4, .int 0)] [] h Q)) ∧ (¬ (hI h (hR h a0 13) 5) ≤ (hI h a0 11) → (EvM w mX2_timeAt d [.ref (hR h a0 13), .int (hI h a0 11)] h (fun r5 h4 => ∃ v6 : Int32, r5 = some (.int v6) ∧ (Ev w (am_Z w) mX3_soonest (d + 1) 54 [(0, .ref a0), (1, .int x1), (2, .int (if v6 < s0 then v6 else s0)), (3, .int 0), (4, .int 0)] [] h4 Q)))))))) : Ev w (am_Z w) mX3_soonest (d + 1) 18 [(0, .ref a0), (1, .int x1)] [.int s0] h Q := by
  refine Ev.istore_n (lv' := [(2, .int s0), (0, .ref a0), (1, .int x1)]) (am_dt kX3_soonest 8 rfl) rfl (by decide) rfl ?_
  refine Ev.aload_n 1 (am_dt kX3_soonest 9 rfl) rfl rfl ?_
  obtain ⟨f1, k⟩ := k
  refine Ev.getI (ci := 3) (k := 11) (am_dt kX3_soonest 10 rfl) (by decide) (by decide) rfl wd_206 f1.1 ?_
  refine Ev.aload_n 1 (am_dt kX3_soonest 11 rfl) rfl rfl ?_
  obtain ⟨f2, k⟩ := k
  refine Ev.getR (ci := 3) (k := 13) (am_dt kX3_soonest 12 rfl) (by decide) (by decide) rfl wd_193 f1.1 f2 ?_
  obtain ⟨f3, k⟩ := k
  refine Ev.getI (ci := 2) (k := 5) (am_dt kX3_soonest 13 rfl) (by decide) (by decide) rfl wd_200 f3.1 ?_
  refine Ev.icmp_ge (tgt := 49) (am_dt kX3_soonest 14 rfl) (by decide) (fun c => ?_) (fun c => ?_)
  · have k := k.1 c
    refine Ev.iconst (v := 0) (am_dt kX3_soonest 23 rfl) (by decide) ?_
    refine Ev.istore_n (lv' := [(3, .int 0), (2, .int s0), (0, .ref a0), (1, .int x1)]) (am_dt kX3_soonest 24 rfl) rfl (by decide) rfl ?_
    refine Ev.iconst (v := 0) (am_dt kX3_soonest 25 rfl) (by decide) ?_
    refine Ev.istore (lv' := [(4, .int 0), (3, .int 0), (2, .int s0), (0, .ref a0), (1, .int x1)]) (am_dt kX3_soonest 26 rfl) (by decide) rfl ?_
    exact Ev.sub [3, 4, 2, 1, 0] rfl k
  · have k := k.2 c
    refine Ev.iload_n 0 (am_dt kX3_soonest 15 rfl) rfl rfl ?_
    refine Ev.aload_n 1 (am_dt kX3_soonest 16 rfl) rfl rfl ?_
    refine Ev.getR (ci := 3) (k := 13) (am_dt kX3_soonest 17 rfl) (by decide) (by decide) rfl wd_193 f1.1 f2 ?_
    refine Ev.aload_n 1 (am_dt kX3_soonest 18 rfl) rfl rfl ?_
    refine Ev.getI (ci := 3) (k := 11) (am_dt kX3_soonest 19 rfl) (by decide) (by decide) rfl wd_206 f1.1 ?_
    refine Ev.callV (ci := 2) (v := mX2_timeAt) (As := [.int (hI h a0 11)]) (st := [.int s0]) okX2_timeAt wd_224 wd_225 wd_226 (am_dt kX3_soonest 20 rfl) (by decide) rfl rfl (Nat.le_of_ble_eq_true rfl) (Nat.le_of_ble_eq_true rfl) f3.1 ?_
    refine EvM.mono k (fun r5 h4 k => ?_)
    obtain ⟨v6, rfl, k⟩ := k
    show Ev w _ _ _ 45 _ [.int v6, .int s0] _ _
    refine Ev.mmin wd_227 wd_74 wd_6 wd_75 (am_dt kX3_soonest 21 rfl) (Nat.le_of_ble_eq_true rfl) ?_
    refine Ev.istore_n (lv' := [(2, .int (if v6 < s0 then v6 else s0)), (0, .ref a0), (1, .int x1)]) (am_dt kX3_soonest 22 rfl) rfl (by decide) rfl ?_
    refine Ev.iconst (v := 0) (am_dt kX3_soonest 23 rfl) (by decide) ?_
    refine Ev.istore_n (lv' := [(3, .int 0), (2, .int (if v6 < s0 then v6 else s0)), (0, .ref a0), (1, .int x1)]) (am_dt kX3_soonest 24 rfl) rfl (by decide) rfl ?_
    refine Ev.iconst (v := 0) (am_dt kX3_soonest 25 rfl) (by decide) ?_
    refine Ev.istore (lv' := [(4, .int 0), (3, .int 0), (2, .int (if v6 < s0 then v6 else s0)), (0, .ref a0), (1, .int x1)]) (am_dt kX3_soonest 26 rfl) (by decide) rfl ?_
    exact Ev.sub [3, 4, 2, 1, 0] rfl k
set_option maxRecDepth 20000 in
set_option maxHeartbeats 2000000 in
theorem bX3_soonest_54 {w : am_W} {d : Nat} {h : am_H} {Q : Option Value → am_H → Prop} {a0 : Nat} {x1 : Int32} {x2 : Int32} {x3 : Int32} {x4 : Int32}  (k : (am_L 3 a0 h) ∧ ((hR h a0 12 ≠ 0) ∧ ((am_L 6 (hR h a0 12) h) ∧ (((hI h (hR h a0 12) 8) ≤ x4 → ((x3 = 0 → (Q (some (.int x2)) h)) ∧ (¬ x3 = 0 → (EvM w mX6_isTimed d [.ref (hR h a0 12), .int (hI h a0 15)] h (fun r5 h4 => ∃ v6 : Int32, r5 = some (.int v6) ∧ ((v6 = 0 → (Q (some (.int x2)) h4)) ∧ (¬ v6 = 0 → ((am_L 3 a0 h4) ∧ (EvM w mX0_size d [.ref (a0 + 4)] h4 (fun r9 h8 => ∃ v10 : Int32, r9 = some (.int v10) ∧ ((am_L 3 a0 h8) ∧ (EvM w mX0_size d [.ref (a0 + 6)] h8 (fun r13 h12 => ∃ v14 : Int32, r13 = some (.int v14) ∧ (((v10 + v14) ≤ 0 → (Q (some (.int x2)) h12)) ∧ (¬ (v10 + v14) ≤ 0 → ((am_L 3 a0 h12) ∧ (EvM w mX3_firstHolding d [.ref a0, .int (x1 + 1), .int x2] h12 (fun r17 h16 => ∃ v18 : Int32, r17 = some (.int v18) ∧ (Q (some (.int v18)) h16))))))))))))))))))) ∧ (¬ (hI h (hR h a0 12) 8) ≤ x4 → (EvM w mX9_get d [.ref (a0 + 1), .int x4] h (fun r20 h19 => ∃ v21 : Int32, r20 = some (.int v21) ∧ ((x3 = 0 → ((x1 < v21 → (Ev w (am_Z w) mX3_soonest (d + 1) 92 [(0, .ref a0), (1, .int x1), (2, .int x2), (4, .int x4), (5, .int v21)] [.int 0] h19 Q)) ∧ (¬ x1 < v21 → (Ev w (am_Z w) mX3_soonest (d + 1) 92 [(0, .ref a0), (1, .int x1), (2, .int x2), (4, .int x4), (5, .int v21)] [.int 1] h19 Q)))) ∧ (¬ x3 = 0 → (Ev w (am_Z w) mX3_soonest (d + 1) 92 [(0, .ref a0), (1, .int x1), (2, .int x2), (4, .int x4), (5, .int v21)] [.int 1] h19 Q)))))))))) : Ev w (am_Z w) mX3_soonest (d + 1) 54 [(0, .ref a0), (1, .int x1), (2, .int x2), (3, .int x3), (4, .int x4)] [] h Q := by
  refine Ev.iload 4 (am_dt kX3_soonest 27 rfl) rfl ?_
  refine Ev.aload_n 0 (am_dt kX3_soonest 28 rfl) rfl rfl ?_
  obtain ⟨f1, k⟩ := k
  obtain ⟨f2, k⟩ := k
  refine Ev.getR (ci := 3) (k := 12) (am_dt kX3_soonest 29 rfl) (by decide) (by decide) rfl wd_191 f1.1 f2 ?_
  obtain ⟨f3, k⟩ := k
  refine Ev.getI (ci := 6) (k := 8) (am_dt kX3_soonest 30 rfl) (by decide) (by decide) rfl wd_228 f3.1 ?_
  refine Ev.icmp_ge (tgt := 116) (am_dt kX3_soonest 31 rfl) (by decide) (fun c => ?_) (fun c => ?_)
  · have k := k.1 c
    refine Ev.iload_n 3 (am_dt kX3_soonest 57 rfl) rfl rfl ?_
    refine Ev.if_eq (tgt := 156) (am_dt kX3_soonest 58 rfl) (by decide) (fun c => ?_) (fun c => ?_)
    · have k := k.1 c
      refine Ev.iconst (v := 0) (am_dt kX3_soonest 75 rfl) (by decide) ?_
      refine Ev.istore (lv' := [(4, .int 0), (0, .ref a0), (1, .int x1), (2, .int x2), (3, .int x3)]) (am_dt kX3_soonest 76 rfl) (by decide) rfl ?_
      refine Ev.iload 0 (am_dt kX3_soonest 77 rfl) rfl ?_
      refine Ev.if_eq (tgt := 175) (am_dt kX3_soonest 78 rfl) (by decide) (fun c => ?_) (fun c => ?_)
      · refine Ev.iload_n 3 (am_dt kX3_soonest 86 rfl) rfl rfl ?_
        exact Ev.iret .int (am_dt kX3_soonest 87 rfl) rfl rfl k
      · exact absurd (by decide) c
    · have k := k.2 c
      refine Ev.aload_n 0 (am_dt kX3_soonest 59 rfl) rfl rfl ?_
      refine Ev.getR (ci := 3) (k := 12) (am_dt kX3_soonest 60 rfl) (by decide) (by decide) rfl wd_191 f1.1 f2 ?_
      refine Ev.aload_n 0 (am_dt kX3_soonest 61 rfl) rfl rfl ?_
      refine Ev.getI (ci := 3) (k := 15) (am_dt kX3_soonest 62 rfl) (by decide) (by decide) rfl wd_199 f1.1 ?_
      refine Ev.callV (ci := 6) (v := mX6_isTimed) (As := [.int (hI h a0 15)]) (st := []) okX6_isTimed wd_229 wd_230 wd_231 (am_dt kX3_soonest 63 rfl) (by decide) rfl rfl (Nat.le_of_ble_eq_true rfl) (Nat.le_of_ble_eq_true rfl) f3.1 ?_
      refine EvM.mono k (fun r5 h4 k => ?_)
      obtain ⟨v6, rfl, k⟩ := k
      show Ev w _ _ _ 131 _ [.int v6] _ _
      refine Ev.if_eq (tgt := 156) (am_dt kX3_soonest 64 rfl) (by decide) (fun c => ?_) (fun c => ?_)
      · have k := k.1 c
        refine Ev.iconst (v := 0) (am_dt kX3_soonest 75 rfl) (by decide) ?_
        refine Ev.istore (lv' := [(4, .int 0), (0, .ref a0), (1, .int x1), (2, .int x2), (3, .int x3)]) (am_dt kX3_soonest 76 rfl) (by decide) rfl ?_
        refine Ev.iload 0 (am_dt kX3_soonest 77 rfl) rfl ?_
        refine Ev.if_eq (tgt := 175) (am_dt kX3_soonest 78 rfl) (by decide) (fun c => ?_) (fun c => ?_)
        · refine Ev.iload_n 3 (am_dt kX3_soonest 86 rfl) rfl rfl ?_
          exact Ev.iret .int (am_dt kX3_soonest 87 rfl) rfl rfl k
        · exact absurd (by decide) c
      · have k := k.2 c
        refine Ev.aload_n 0 (am_dt kX3_soonest 65 rfl) rfl rfl ?_
        obtain ⟨f7, k⟩ := k
        refine Ev.getRe (ci := 3) (k := 0) (r := a0 + 4) (am_dt kX3_soonest 66 rfl) (by decide) (by decide) rfl wd_184 f7.1 (am_L.r f7 3 rfl) (by omega) ?_
        refine Ev.callV (ci := 0) (v := mX0_size) (As := []) (st := []) okX0_size wd_232 wd_233 wd_234 (am_dt kX3_soonest 67 rfl) (by decide) rfl rfl (Nat.le_of_ble_eq_true rfl) (Nat.le_of_ble_eq_true rfl) (am_L.s f7 3 rfl) ?_
        refine EvM.mono k (fun r9 h8 k => ?_)
        obtain ⟨v10, rfl, k⟩ := k
        show Ev w _ _ _ 141 _ [.int v10] _ _
        refine Ev.aload_n 0 (am_dt kX3_soonest 68 rfl) rfl rfl ?_
        obtain ⟨f11, k⟩ := k
        refine Ev.getRe (ci := 3) (k := 1) (r := a0 + 6) (am_dt kX3_soonest 69 rfl) (by decide) (by decide) rfl wd_185 f11.1 (am_L.r f11 4 rfl) (by omega) ?_
        refine Ev.callV (ci := 0) (v := mX0_size) (As := []) (st := [.int v10]) okX0_size wd_232 wd_233 wd_234 (am_dt kX3_soonest 70 rfl) (by decide) rfl rfl (Nat.le_of_ble_eq_true rfl) (Nat.le_of_ble_eq_true rfl) (am_L.s f11 4 rfl) ?_
        refine EvM.mono k (fun r13 h12 k => ?_)
        obtain ⟨v14, rfl, k⟩ := k
        show Ev w _ _ _ 148 _ [.int v14, .int v10] _ _
        refine Ev.iadd (am_dt kX3_soonest 71 rfl) ?_
        refine Ev.if_le (tgt := 156) (am_dt kX3_soonest 72 rfl) (by decide) (fun c => ?_) (fun c => ?_)
        · have k := k.1 c
          refine Ev.iconst (v := 0) (am_dt kX3_soonest 75 rfl) (by decide) ?_
          refine Ev.istore (lv' := [(4, .int 0), (0, .ref a0), (1, .int x1), (2, .int x2), (3, .int x3)]) (am_dt kX3_soonest 76 rfl) (by decide) rfl ?_
          refine Ev.iload 0 (am_dt kX3_soonest 77 rfl) rfl ?_
          refine Ev.if_eq (tgt := 175) (am_dt kX3_soonest 78 rfl) (by decide) (fun c => ?_) (fun c => ?_)
          · refine Ev.iload_n 3 (am_dt kX3_soonest 86 rfl) rfl rfl ?_
            exact Ev.iret .int (am_dt kX3_soonest 87 rfl) rfl rfl k
          · exact absurd (by decide) c
        · have k := k.2 c
          refine Ev.iconst (v := 1) (am_dt kX3_soonest 73 rfl) (by decide) ?_
          refine Ev.goto (tgt := 157) (am_dt kX3_soonest 74 rfl) (by decide) ?_
          refine Ev.istore (lv' := [(4, .int 1), (0, .ref a0), (1, .int x1), (2, .int x2), (3, .int x3)]) (am_dt kX3_soonest 76 rfl) (by decide) rfl ?_
          refine Ev.iload 0 (am_dt kX3_soonest 77 rfl) rfl ?_
          refine Ev.if_eq (tgt := 175) (am_dt kX3_soonest 78 rfl) (by decide) (fun c => ?_) (fun c => ?_)
          · exact absurd c (by decide)
          · refine Ev.aload_n 1 (am_dt kX3_soonest 79 rfl) rfl rfl ?_
            refine Ev.iload_n 2 (am_dt kX3_soonest 80 rfl) rfl rfl ?_
            refine Ev.iconst (v := 1) (am_dt kX3_soonest 81 rfl) (by decide) ?_
            refine Ev.iadd (am_dt kX3_soonest 82 rfl) ?_
            refine Ev.iload_n 3 (am_dt kX3_soonest 83 rfl) rfl rfl ?_
            obtain ⟨f15, k⟩ := k
            refine Ev.callV (ci := 3) (v := mX3_firstHolding) (As := [.int (x1 + 1), .int x2]) (st := []) okX3_firstHolding wd_235 wd_236 wd_237 (am_dt kX3_soonest 84 rfl) (by decide) rfl rfl (Nat.le_of_ble_eq_true rfl) (Nat.le_of_ble_eq_true rfl) f15.1 ?_
            refine EvM.mono k (fun r17 h16 k => ?_)
            obtain ⟨v18, rfl, k⟩ := k
            show Ev w _ _ _ 172 _ [.int v18] _ _
            refine Ev.goto (tgt := 176) (am_dt kX3_soonest 85 rfl) (by decide) ?_
            exact Ev.iret .int (am_dt kX3_soonest 87 rfl) rfl rfl k
  · have k := k.2 c
    refine Ev.aload_n 0 (am_dt kX3_soonest 32 rfl) rfl rfl ?_
    refine Ev.getRe (ci := 3) (k := 7) (r := a0 + 1) (am_dt kX3_soonest 33 rfl) (by decide) (by decide) rfl wd_178 f1.1 (am_L.r f1 0 rfl) (by omega) ?_
    refine Ev.iload 4 (am_dt kX3_soonest 34 rfl) rfl ?_
    refine Ev.callSN (v := mX9_get) (As := [.ref (a0 + 1), .int x4]) (st := []) okX9_get wd_19 wd_238 (am_dt kX3_soonest 35 rfl) rfl rfl (Nat.le_of_ble_eq_true rfl) (Nat.le_of_ble_eq_true rfl) ?_
    refine EvM.mono k (fun r20 h19 k => ?_)
    obtain ⟨v21, rfl, k⟩ := k
    show Ev w _ _ _ 75 _ [.int v21] _ _
    refine Ev.istore (lv' := [(5, .int v21), (0, .ref a0), (1, .int x1), (2, .int x2), (3, .int x3), (4, .int x4)]) (am_dt kX3_soonest 36 rfl) (by decide) rfl ?_
    refine Ev.iload_n 4 (am_dt kX3_soonest 37 rfl) rfl rfl ?_
    refine Ev.if_ne (tgt := 87) (am_dt kX3_soonest 38 rfl) (by decide) (fun c => ?_) (fun c => ?_)
    · have k := k.2 c
      refine Ev.iconst (v := 1) (am_dt kX3_soonest 42 rfl) (by decide) ?_
      refine Ev.goto (tgt := 92) (am_dt kX3_soonest 43 rfl) (by decide) ?_
      exact Ev.sub [1, 2, 3, 5, 0] rfl k
    · have k := k.1 c
      refine Ev.iload 0 (am_dt kX3_soonest 39 rfl) rfl ?_
      refine Ev.iload_n 2 (am_dt kX3_soonest 40 rfl) rfl rfl ?_
      refine Ev.icmp_gt (tgt := 91) (am_dt kX3_soonest 41 rfl) (by decide) (fun c => ?_) (fun c => ?_)
      · have k := k.1 c
        refine Ev.iconst (v := 0) (am_dt kX3_soonest 44 rfl) (by decide) ?_
        exact Ev.sub [1, 2, 3, 5, 0] rfl k
      · have k := k.2 c
        refine Ev.iconst (v := 1) (am_dt kX3_soonest 42 rfl) (by decide) ?_
        refine Ev.goto (tgt := 92) (am_dt kX3_soonest 43 rfl) (by decide) ?_
        exact Ev.sub [1, 2, 3, 5, 0] rfl k
set_option maxRecDepth 20000 in
set_option maxHeartbeats 2000000 in
theorem bX3_soonest_92 {w : am_W} {d : Nat} {h : am_H} {Q : Option Value → am_H → Prop} {a0 : Nat} {x1 : Int32} {x2 : Int32} {x4 : Int32} {x5 : Int32} {s0 : Int32} (k : (x5 ≤ x1 → (Ev w (am_Z w) mX3_soonest (d + 1) 54 [(0, .ref a0), (1, .int x1), (2, .int x2), (3, .int s0), (4, .int (x4 + 1))] [] h Q)) ∧ (¬ x5 ≤ x1 → (Ev w (am_Z w) mX3_soonest (d + 1) 54 [(0, .ref a0), (1, .int x1), (2, .int (if x5 < x2 then x5 else x2)), (3, .int s0), (4, .int (x4 + 1))] [] h Q))) : Ev w (am_Z w) mX3_soonest (d + 1) 92 [(0, .ref a0), (1, .int x1), (2, .int x2), (4, .int x4), (5, .int x5)] [.int s0] h Q := by
  refine Ev.istore_n (lv' := [(3, .int s0), (0, .ref a0), (1, .int x1), (2, .int x2), (4, .int x4), (5, .int x5)]) (am_dt kX3_soonest 45 rfl) rfl (by decide) rfl ?_
  refine Ev.iload 5 (am_dt kX3_soonest 46 rfl) rfl ?_
  refine Ev.iload_n 2 (am_dt kX3_soonest 47 rfl) rfl rfl ?_
  refine Ev.icmp_le (tgt := 108) (am_dt kX3_soonest 48 rfl) (by decide) (fun c => ?_) (fun c => ?_)
  · have k := k.1 c
    refine Ev.iload_n 3 (am_dt kX3_soonest 53 rfl) rfl rfl ?_
    refine Ev.istore_n (lv' := [(2, .int x2), (3, .int s0), (0, .ref a0), (1, .int x1), (4, .int x4), (5, .int x5)]) (am_dt kX3_soonest 54 rfl) rfl (by decide) rfl ?_
    refine Ev.iinc (v := x4 + 1) (lv' := [(4, .int (x4 + 1)), (2, .int x2), (3, .int s0), (0, .ref a0), (1, .int x1), (5, .int x5)]) 4 (am_dt kX3_soonest 55 rfl) rfl rfl (by decide) rfl ?_
    refine Ev.goto (tgt := 54) (am_dt kX3_soonest 56 rfl) (by decide) ?_
    exact Ev.sub [3, 4, 1, 2, 0] rfl k
  · have k := k.2 c
    refine Ev.iload_n 3 (am_dt kX3_soonest 49 rfl) rfl rfl ?_
    refine Ev.iload 5 (am_dt kX3_soonest 50 rfl) rfl ?_
    refine Ev.mmin wd_227 wd_74 wd_6 wd_75 (am_dt kX3_soonest 51 rfl) (Nat.le_of_ble_eq_true rfl) ?_
    refine Ev.goto (tgt := 109) (am_dt kX3_soonest 52 rfl) (by decide) ?_
    refine Ev.istore_n (lv' := [(2, .int (if x5 < x2 then x5 else x2)), (3, .int s0), (0, .ref a0), (1, .int x1), (4, .int x4), (5, .int x5)]) (am_dt kX3_soonest 54 rfl) rfl (by decide) rfl ?_
    refine Ev.iinc (v := x4 + 1) (lv' := [(4, .int (x4 + 1)), (2, .int (if x5 < x2 then x5 else x2)), (3, .int s0), (0, .ref a0), (1, .int x1), (5, .int x5)]) 4 (am_dt kX3_soonest 55 rfl) rfl rfl (by decide) rfl ?_
    refine Ev.goto (tgt := 54) (am_dt kX3_soonest 56 rfl) (by decide) ?_
    exact Ev.sub [3, 4, 1, 2, 0] rfl k
set_option maxRecDepth 20000 in
set_option maxHeartbeats 2000000 in
theorem bX3_firstHolding_0 {w : am_W} {d : Nat} {h : am_H} {Q : Option Value → am_H → Prop} {a0 : Nat} {x1 : Int32} {x2 : Int32}  (k : (am_L 3 a0 h) ∧ (EvM w mX3_gatherFacts d [.ref a0, .int x1] h (fun r3 h2 => r3 = none ∧ (Ev w (am_Z w) mX3_firstHolding (d + 1) 7 [(0, .ref a0), (2, .int x2), (3, .int x1)] [] h2 Q)))) : EvM w mX3_firstHolding (d + 1) [.ref a0, .int x1, .int x2] h Q := by
  show Ev w (am_Z w) mX3_firstHolding (d + 1) 0 [(0, .ref a0), (1, .int x1), (2, .int x2)] [] h Q
  refine Ev.aload_n 0 (am_dt kX3_firstHolding 0 rfl) rfl rfl ?_
  refine Ev.iload_n 1 (am_dt kX3_firstHolding 1 rfl) rfl rfl ?_
  obtain ⟨f1, k⟩ := k
  refine Ev.callV (ci := 3) (v := mX3_gatherFacts) (As := [.int x1]) (st := []) okX3_gatherFacts wd_239 wd_240 wd_241 (am_dt kX3_firstHolding 2 rfl) (by decide) rfl rfl (Nat.le_of_ble_eq_true rfl) (Nat.le_of_ble_eq_true rfl) f1.1 ?_
  refine EvM.mono k (fun r3 h2 k => ?_)
  obtain ⟨rfl, k⟩ := k
  show Ev w _ _ _ 5 _ [] _ _
  refine Ev.iload_n 1 (am_dt kX3_firstHolding 3 rfl) rfl rfl ?_
  refine Ev.istore_n (lv' := [(3, .int x1), (0, .ref a0), (1, .int x1), (2, .int x2)]) (am_dt kX3_firstHolding 4 rfl) rfl (by decide) rfl ?_
  exact Ev.sub [1, 3, 0] rfl k
set_option maxRecDepth 20000 in
set_option maxHeartbeats 2000000 in
theorem bX3_firstHolding_7 {w : am_W} {d : Nat} {h : am_H} {Q : Option Value → am_H → Prop} {a0 : Nat} {x2 : Int32} {x3 : Int32}  (k : (x2 ≤ x3 → (Q (some (.int x2)) h)) ∧ (¬ x2 ≤ x3 → ((am_L 3 a0 h) ∧ ((hR h a0 12 ≠ 0) ∧ ((am_L 6 (hR h a0 12) h) ∧ (EvM w mX6_lawValue d [.ref (hR h a0 12), .int (hI h a0 15), .ref (a0 + 2), .ref (a0 + 3)] h (fun r5 h4 => ∃ v6 : Int32, r5 = some (.int v6) ∧ ((v6 = 0 → ((am_L 3 a0 h4) ∧ (EvM w mX9_get d [.ref (a0 + 2), .int 4] h4 (fun r9 h8 => ∃ v10 : Int32, r9 = some (.int v10) ∧ (EvM w mX9_set d [.ref (a0 + 2), .int 4, .int (v10 + 1)] h8 (fun r12 h11 => r12 = none ∧ ((am_L 3 a0 h11) ∧ (EvM w mX9_set d [.ref (a0 + 2), .int 5, .int (x3 + 1)] h11 (fun r15 h14 => r15 = none ∧ (Ev w (am_Z w) mX3_firstHolding (d + 1) 7 [(0, .ref a0), (2, .int x2), (3, .int (x3 + 1))] [] h14 Q)))))))))) ∧ (¬ v6 = 0 → (Q (some (.int x3)) h4)))))))))) : Ev w (am_Z w) mX3_firstHolding (d + 1) 7 [(0, .ref a0), (2, .int x2), (3, .int x3)] [] h Q := by
  refine Ev.iload_n 2 (am_dt kX3_firstHolding 5 rfl) rfl rfl ?_
  refine Ev.iload_n 1 (am_dt kX3_firstHolding 6 rfl) rfl rfl ?_
  refine Ev.icmp_ge (tgt := 71) (am_dt kX3_firstHolding 7 rfl) (by decide) (fun c => ?_) (fun c => ?_)
  · have k := k.1 c
    refine Ev.iload_n 1 (am_dt kX3_firstHolding 39 rfl) rfl rfl ?_
    exact Ev.iret .int (am_dt kX3_firstHolding 40 rfl) rfl rfl k
  · have k := k.2 c
    refine Ev.aload_n 0 (am_dt kX3_firstHolding 8 rfl) rfl rfl ?_
    obtain ⟨f1, k⟩ := k
    obtain ⟨f2, k⟩ := k
    refine Ev.getR (ci := 3) (k := 12) (am_dt kX3_firstHolding 9 rfl) (by decide) (by decide) rfl wd_191 f1.1 f2 ?_
    refine Ev.aload_n 0 (am_dt kX3_firstHolding 10 rfl) rfl rfl ?_
    refine Ev.getI (ci := 3) (k := 15) (am_dt kX3_firstHolding 11 rfl) (by decide) (by decide) rfl wd_199 f1.1 ?_
    refine Ev.aload_n 0 (am_dt kX3_firstHolding 12 rfl) rfl rfl ?_
    refine Ev.getRe (ci := 3) (k := 8) (r := a0 + 2) (am_dt kX3_firstHolding 13 rfl) (by decide) (by decide) rfl wd_179 f1.1 (am_L.r f1 1 rfl) (by omega) ?_
    refine Ev.aload_n 0 (am_dt kX3_firstHolding 14 rfl) rfl rfl ?_
    refine Ev.getRe (ci := 3) (k := 9) (r := a0 + 3) (am_dt kX3_firstHolding 15 rfl) (by decide) (by decide) rfl wd_180 f1.1 (am_L.r f1 2 rfl) (by omega) ?_
    obtain ⟨f3, k⟩ := k
    refine Ev.callV (ci := 6) (v := mX6_lawValue) (As := [.int (hI h a0 15), .ref (a0 + 2), .ref (a0 + 3)]) (st := []) okX6_lawValue wd_242 wd_243 wd_244 (am_dt kX3_firstHolding 16 rfl) (by decide) rfl rfl (Nat.le_of_ble_eq_true rfl) (Nat.le_of_ble_eq_true rfl) f3.1 ?_
    refine EvM.mono k (fun r5 h4 k => ?_)
    obtain ⟨v6, rfl, k⟩ := k
    show Ev w _ _ _ 31 _ [.int v6] _ _
    refine Ev.if_eq (tgt := 36) (am_dt kX3_firstHolding 17 rfl) (by decide) (fun c => ?_) (fun c => ?_)
    · have k := k.1 c
      refine Ev.aload_n 0 (am_dt kX3_firstHolding 20 rfl) rfl rfl ?_
      obtain ⟨f7, k⟩ := k
      refine Ev.getRe (ci := 3) (k := 8) (r := a0 + 2) (am_dt kX3_firstHolding 21 rfl) (by decide) (by decide) rfl wd_179 f7.1 (am_L.r f7 1 rfl) (by omega) ?_
      refine Ev.iconst (v := 4) (am_dt kX3_firstHolding 22 rfl) (by decide) ?_
      refine Ev.aload_n 0 (am_dt kX3_firstHolding 23 rfl) rfl rfl ?_
      refine Ev.getRe (ci := 3) (k := 8) (r := a0 + 2) (am_dt kX3_firstHolding 24 rfl) (by decide) (by decide) rfl wd_179 f7.1 (am_L.r f7 1 rfl) (by omega) ?_
      refine Ev.iconst (v := 4) (am_dt kX3_firstHolding 25 rfl) (by decide) ?_
      refine Ev.callSN (v := mX9_get) (As := [.ref (a0 + 2), .int 4]) (st := [.int 4, .ref (a0 + 2)]) okX9_get wd_19 wd_238 (am_dt kX3_firstHolding 26 rfl) rfl rfl (Nat.le_of_ble_eq_true rfl) (Nat.le_of_ble_eq_true rfl) ?_
      refine EvM.mono k (fun r9 h8 k => ?_)
      obtain ⟨v10, rfl, k⟩ := k
      show Ev w _ _ _ 49 _ [.int v10, .int 4, .ref (a0 + 2)] _ _
      refine Ev.iconst (v := 1) (am_dt kX3_firstHolding 27 rfl) (by decide) ?_
      refine Ev.iadd (am_dt kX3_firstHolding 28 rfl) ?_
      refine Ev.callSN (v := mX9_set) (As := [.ref (a0 + 2), .int 4, .int (v10 + 1)]) (st := []) okX9_set wd_16 wd_201 (am_dt kX3_firstHolding 29 rfl) rfl rfl (Nat.le_of_ble_eq_true rfl) (Nat.le_of_ble_eq_true rfl) ?_
      refine EvM.mono k (fun r12 h11 k => ?_)
      obtain ⟨rfl, k⟩ := k
      show Ev w _ _ _ 54 _ [] _ _
      refine Ev.aload_n 0 (am_dt kX3_firstHolding 30 rfl) rfl rfl ?_
      obtain ⟨f13, k⟩ := k
      refine Ev.getRe (ci := 3) (k := 8) (r := a0 + 2) (am_dt kX3_firstHolding 31 rfl) (by decide) (by decide) rfl wd_179 f13.1 (am_L.r f13 1 rfl) (by omega) ?_
      refine Ev.iconst (v := 5) (am_dt kX3_firstHolding 32 rfl) (by decide) ?_
      refine Ev.iload_n 2 (am_dt kX3_firstHolding 33 rfl) rfl rfl ?_
      refine Ev.iconst (v := 1) (am_dt kX3_firstHolding 34 rfl) (by decide) ?_
      refine Ev.iadd (am_dt kX3_firstHolding 35 rfl) ?_
      refine Ev.callSN (v := mX9_set) (As := [.ref (a0 + 2), .int 5, .int (x3 + 1)]) (st := []) okX9_set wd_16 wd_201 (am_dt kX3_firstHolding 36 rfl) rfl rfl (Nat.le_of_ble_eq_true rfl) (Nat.le_of_ble_eq_true rfl) ?_
      refine EvM.mono k (fun r15 h14 k => ?_)
      obtain ⟨rfl, k⟩ := k
      show Ev w _ _ _ 65 _ [] _ _
      refine Ev.iinc (v := x3 + 1) (lv' := [(3, .int (x3 + 1)), (0, .ref a0), (2, .int x2)]) 2 (am_dt kX3_firstHolding 37 rfl) rfl rfl (by decide) rfl ?_
      refine Ev.goto (tgt := 7) (am_dt kX3_firstHolding 38 rfl) (by decide) ?_
      exact Ev.sub [1, 2, 0] rfl k
    · have k := k.2 c
      refine Ev.iload_n 2 (am_dt kX3_firstHolding 18 rfl) rfl rfl ?_
      exact Ev.iret .int (am_dt kX3_firstHolding 19 rfl) rfl rfl k
set_option maxRecDepth 20000 in
set_option maxHeartbeats 2000000 in
theorem bX3_come_0 {w : am_W} {d : Nat} {h : am_H} {Q : Option Value → am_H → Prop} {a0 : Nat} {x1 : Int32}  (k : (am_L 3 a0 h) ∧ ((hR h a0 13 ≠ 0) ∧ ((am_L 2 (hR h a0 13) h) ∧ (((hI h (hR h a0 13) 5) ≤ (hI h a0 11) → (Q none h)) ∧ (¬ (hI h (hR h a0 13) 5) ≤ (hI h a0 11) → (EvM w mX2_timeAt d [.ref (hR h a0 13), .int (hI h a0 11)] h (fun r5 h4 => ∃ v6 : Int32, r5 = some (.int v6) ∧ ((x1 < v6 → (Q none h4)) ∧ (¬ x1 < v6 → ((am_L 3 a0 h4) ∧ ((hR h4 a0 13 ≠ 0) ∧ ((am_L 2 (hR h4 a0 13) h4) ∧ (EvM w mX9_get d [.ref ((hR h4 a0 13) + 5), .int (hI h4 a0 11)] h4 (fun r11 h10 => ∃ v12 : Int32, r11 = some (.int v12) ∧ ((am_L 3 a0 h10) ∧ ((hR h10 a0 14 ≠ 0) ∧ (EvM w mX9_get d [.ref (hR h10 a0 14), .int v12] h10 (fun r16 h15 => ∃ v17 : Int32, r16 = some (.int v17) ∧ ((am_L 3 a0 h15) ∧ (EvM w mX3_bankOf d [.ref a0, .int v17] h15 (fun r20 h19 => ∃ v21 : Nat, r20 = some (.ref v21) ∧ ((am_L 3 a0 h19) ∧ ((hR h19 a0 13 ≠ 0) ∧ ((am_L 0 v21 h19) ∧ (EvM w mX0_join d [.ref v21, .int v12, .ref (hR h19 a0 13)] h19 (fun r26 h25 => r26 = none ∧ ((am_L 3 a0 h25) ∧ (∀ h28 : am_H, h28 = sI h25 a0 11 ((hI h25 a0 11) + 1) → (Ev w (am_Z w) mX3_come (d + 1) 0 [(0, .ref a0), (1, .int x1)] [] h28 Q))))))))))))))))))))))))))))) : EvM w mX3_come (d + 1) [.ref a0, .int x1] h Q := by
  show Ev w (am_Z w) mX3_come (d + 1) 0 [(0, .ref a0), (1, .int x1)] [] h Q
  refine Ev.aload_n 0 (am_dt kX3_come 0 rfl) rfl rfl ?_
  obtain ⟨f1, k⟩ := k
  refine Ev.getI (ci := 3) (k := 11) (am_dt kX3_come 1 rfl) (by decide) (by decide) rfl wd_206 f1.1 ?_
  refine Ev.aload_n 0 (am_dt kX3_come 2 rfl) rfl rfl ?_
  obtain ⟨f2, k⟩ := k
  refine Ev.getR (ci := 3) (k := 13) (am_dt kX3_come 3 rfl) (by decide) (by decide) rfl wd_193 f1.1 f2 ?_
  obtain ⟨f3, k⟩ := k
  refine Ev.getI (ci := 2) (k := 5) (am_dt kX3_come 4 rfl) (by decide) (by decide) rfl wd_200 f3.1 ?_
  refine Ev.icmp_ge (tgt := 77) (am_dt kX3_come 5 rfl) (by decide) (fun c => ?_) (fun c => ?_)
  · have k := k.1 c
    exact Ev.vret (am_dt kX3_come 37 rfl) rfl k
  · have k := k.2 c
    refine Ev.aload_n 0 (am_dt kX3_come 6 rfl) rfl rfl ?_
    refine Ev.getR (ci := 3) (k := 13) (am_dt kX3_come 7 rfl) (by decide) (by decide) rfl wd_193 f1.1 f2 ?_
    refine Ev.aload_n 0 (am_dt kX3_come 8 rfl) rfl rfl ?_
    refine Ev.getI (ci := 3) (k := 11) (am_dt kX3_come 9 rfl) (by decide) (by decide) rfl wd_206 f1.1 ?_
    refine Ev.callV (ci := 2) (v := mX2_timeAt) (As := [.int (hI h a0 11)]) (st := []) okX2_timeAt wd_224 wd_225 wd_226 (am_dt kX3_come 10 rfl) (by decide) rfl rfl (Nat.le_of_ble_eq_true rfl) (Nat.le_of_ble_eq_true rfl) f3.1 ?_
    refine EvM.mono k (fun r5 h4 k => ?_)
    obtain ⟨v6, rfl, k⟩ := k
    show Ev w _ _ _ 25 _ [.int v6] _ _
    refine Ev.iload_n 1 (am_dt kX3_come 11 rfl) rfl rfl ?_
    refine Ev.icmp_gt (tgt := 77) (am_dt kX3_come 12 rfl) (by decide) (fun c => ?_) (fun c => ?_)
    · have k := k.1 c
      exact Ev.vret (am_dt kX3_come 37 rfl) rfl k
    · have k := k.2 c
      refine Ev.aload_n 0 (am_dt kX3_come 13 rfl) rfl rfl ?_
      obtain ⟨f7, k⟩ := k
      obtain ⟨f8, k⟩ := k
      refine Ev.getR (ci := 3) (k := 13) (am_dt kX3_come 14 rfl) (by decide) (by decide) rfl wd_193 f7.1 f8 ?_
      obtain ⟨f9, k⟩ := k
      refine Ev.getRe (ci := 2) (k := 4) (r := (hR h4 a0 13) + 5) (am_dt kX3_come 15 rfl) (by decide) (by decide) rfl wd_245 f9.1 (am_L.r f9 4 rfl) (by omega) ?_
      refine Ev.aload_n 0 (am_dt kX3_come 16 rfl) rfl rfl ?_
      refine Ev.getI (ci := 3) (k := 11) (am_dt kX3_come 17 rfl) (by decide) (by decide) rfl wd_206 f7.1 ?_
      refine Ev.callSN (v := mX9_get) (As := [.ref ((hR h4 a0 13) + 5), .int (hI h4 a0 11)]) (st := []) okX9_get wd_19 wd_238 (am_dt kX3_come 18 rfl) rfl rfl (Nat.le_of_ble_eq_true rfl) (Nat.le_of_ble_eq_true rfl) ?_
      refine EvM.mono k (fun r11 h10 k => ?_)
      obtain ⟨v12, rfl, k⟩ := k
      show Ev w _ _ _ 43 _ [.int v12] _ _
      refine Ev.istore_n (lv' := [(2, .int v12), (0, .ref a0), (1, .int x1)]) (am_dt kX3_come 19 rfl) rfl (by decide) rfl ?_
      refine Ev.aload_n 1 (am_dt kX3_come 20 rfl) rfl rfl ?_
      refine Ev.aload_n 1 (am_dt kX3_come 21 rfl) rfl rfl ?_
      obtain ⟨f13, k⟩ := k
      obtain ⟨f14, k⟩ := k
      refine Ev.getR (ci := 3) (k := 14) (am_dt kX3_come 22 rfl) (by decide) (by decide) rfl wd_195 f13.1 f14 ?_
      refine Ev.iload_n 0 (am_dt kX3_come 23 rfl) rfl rfl ?_
      refine Ev.callSN (v := mX9_get) (As := [.ref (hR h10 a0 14), .int v12]) (st := [.ref a0]) okX9_get wd_19 wd_238 (am_dt kX3_come 24 rfl) rfl rfl (Nat.le_of_ble_eq_true rfl) (Nat.le_of_ble_eq_true rfl) ?_
      refine EvM.mono k (fun r16 h15 k => ?_)
      obtain ⟨v17, rfl, k⟩ := k
      show Ev w _ _ _ 53 _ [.int v17, .ref a0] _ _
      obtain ⟨f18, k⟩ := k
      refine Ev.callV (ci := 3) (v := mX3_bankOf) (As := [.int v17]) (st := []) okX3_bankOf wd_246 wd_247 wd_248 (am_dt kX3_come 25 rfl) (by decide) rfl rfl (Nat.le_of_ble_eq_true rfl) (Nat.le_of_ble_eq_true rfl) f18.1 ?_
      refine EvM.mono k (fun r20 h19 k => ?_)
      obtain ⟨v21, rfl, k⟩ := k
      show Ev w _ _ _ 56 _ [.ref v21] _ _
      refine Ev.iload_n 0 (am_dt kX3_come 26 rfl) rfl rfl ?_
      refine Ev.aload_n 1 (am_dt kX3_come 27 rfl) rfl rfl ?_
      obtain ⟨f22, k⟩ := k
      obtain ⟨f23, k⟩ := k
      refine Ev.getR (ci := 3) (k := 13) (am_dt kX3_come 28 rfl) (by decide) (by decide) rfl wd_193 f22.1 f23 ?_
      obtain ⟨f24, k⟩ := k
      refine Ev.callV (ci := 0) (v := mX0_join) (As := [.int v12, .ref (hR h19 a0 13)]) (st := []) okX0_join wd_249 wd_250 wd_251 (am_dt kX3_come 29 rfl) (by decide) rfl rfl (Nat.le_of_ble_eq_true rfl) (Nat.le_of_ble_eq_true rfl) f24.1 ?_
      refine EvM.mono k (fun r26 h25 k => ?_)
      obtain ⟨rfl, k⟩ := k
      show Ev w _ _ _ 64 _ [] _ _
      refine Ev.aload_n 1 (am_dt kX3_come 30 rfl) rfl rfl ?_
      refine Ev.dup (am_dt kX3_come 31 rfl) rfl ?_
      obtain ⟨f27, k⟩ := k
      refine Ev.getI (ci := 3) (k := 11) (am_dt kX3_come 32 rfl) (by decide) (by decide) rfl wd_206 f27.1 ?_
      refine Ev.iconst (v := 1) (am_dt kX3_come 33 rfl) (by decide) ?_
      refine Ev.iadd (am_dt kX3_come 34 rfl) ?_
      refine Ev.putI' (ci := 3) (k := 11) (am_dt kX3_come 35 rfl) (by decide) (by decide) wd_206 rfl rfl rfl rfl f27.1 (fun h28 eh28 => ?_)
      have k := k h28 eh28
      have f27 := am_LsI eh28 f27
      refine Ev.goto (tgt := 0) (am_dt kX3_come 36 rfl) (by decide) ?_
      exact Ev.sub [1, 2] rfl k
set_option maxRecDepth 20000 in
set_option maxHeartbeats 2000000 in
theorem bX3_bankOf_0 {w : am_W} {d : Nat} {h : am_H} {Q : Option Value → am_H → Prop} {a0 : Nat} {x1 : Int32}  (k : (x1 = 0 → ((am_L 3 a0 h) ∧ (Q (some (.ref (a0 + 4))) h))) ∧ (¬ x1 = 0 → ((am_L 3 a0 h) ∧ (Q (some (.ref (a0 + 6))) h)))) : EvM w mX3_bankOf d [.ref a0, .int x1] h Q := by
  show Ev w (am_Z w) mX3_bankOf d 0 [(0, .ref a0), (1, .int x1)] [] h Q
  refine Ev.iload_n 1 (am_dt kX3_bankOf 0 rfl) rfl rfl ?_
  refine Ev.if_ne (tgt := 11) (am_dt kX3_bankOf 1 rfl) (by decide) (fun c => ?_) (fun c => ?_)
  · have k := k.2 c
    refine Ev.aload_n 0 (am_dt kX3_bankOf 5 rfl) rfl rfl ?_
    obtain ⟨f2, k⟩ := k
    refine Ev.getRe (ci := 3) (k := 1) (r := a0 + 6) (am_dt kX3_bankOf 6 rfl) (by decide) (by decide) rfl wd_185 f2.1 (am_L.r f2 4 rfl) (by omega) ?_
    exact Ev.aret _ (by first | exact Or.inl ⟨_, rfl⟩ | exact Or.inr ⟨_, rfl⟩) (am_dt kX3_bankOf 7 rfl) rfl k
  · have k := k.1 c
    refine Ev.aload_n 0 (am_dt kX3_bankOf 2 rfl) rfl rfl ?_
    obtain ⟨f1, k⟩ := k
    refine Ev.getRe (ci := 3) (k := 0) (r := a0 + 4) (am_dt kX3_bankOf 3 rfl) (by decide) (by decide) rfl wd_184 f1.1 (am_L.r f1 3 rfl) (by omega) ?_
    refine Ev.goto (tgt := 15) (am_dt kX3_bankOf 4 rfl) (by decide) ?_
    exact Ev.aret _ (by first | exact Or.inl ⟨_, rfl⟩ | exact Or.inr ⟨_, rfl⟩) (am_dt kX3_bankOf 7 rfl) rfl k
set_option maxRecDepth 20000 in
set_option maxHeartbeats 2000000 in
theorem bX3_wouldRing_0 {w : am_W} {d : Nat} {h : am_H} {Q : Option Value → am_H → Prop} {a0 : Nat} {x1 : Int32}  (k : (am_L 3 a0 h) ∧ (EvM w mX0_size d [.ref (a0 + 4)] h (fun r3 h2 => ∃ v4 : Int32, r3 = some (.int v4) ∧ ((am_L 3 a0 h2) ∧ (EvM w mX0_size d [.ref (a0 + 6)] h2 (fun r7 h6 => ∃ v8 : Int32, r7 = some (.int v8) ∧ (((v4 + v8) = 0 → (Q (some (.int 0)) h6)) ∧ (¬ (v4 + v8) = 0 → ((am_L 3 a0 h6) ∧ (EvM w mX3_freeBoat d [.ref a0, .int x1] h6 (fun r11 h10 => ∃ v12 : Int32, r11 = some (.int v12) ∧ ((v12 = ((-1)) → (Q (some (.int 0)) h10)) ∧ (¬ v12 = ((-1)) → ((am_L 3 a0 h10) ∧ (EvM w mX3_gatherFacts d [.ref a0, .int x1] h10 (fun r15 h14 => r15 = none ∧ ((am_L 3 a0 h14) ∧ ((hR h14 a0 12 ≠ 0) ∧ ((am_L 6 (hR h14 a0 12) h14) ∧ (EvM w mX6_lawValue d [.ref (hR h14 a0 12), .int (hI h14 a0 15), .ref (a0 + 2), .ref (a0 + 3)] h14 (fun r20 h19 => ∃ v21 : Int32, r20 = some (.int v21) ∧ ((v21 = 0 → (Q (some (.int 0)) h19)) ∧ (¬ v21 = 0 → (Q (some (.int 1)) h19)))))))))))))))))))))))) : EvM w mX3_wouldRing (d + 1) [.ref a0, .int x1] h Q := by
  show Ev w (am_Z w) mX3_wouldRing (d + 1) 0 [(0, .ref a0), (1, .int x1)] [] h Q
  refine Ev.aload_n 0 (am_dt kX3_wouldRing 0 rfl) rfl rfl ?_
  obtain ⟨f1, k⟩ := k
  refine Ev.getRe (ci := 3) (k := 0) (r := a0 + 4) (am_dt kX3_wouldRing 1 rfl) (by decide) (by decide) rfl wd_184 f1.1 (am_L.r f1 3 rfl) (by omega) ?_
  refine Ev.callV (ci := 0) (v := mX0_size) (As := []) (st := []) okX0_size wd_232 wd_233 wd_234 (am_dt kX3_wouldRing 2 rfl) (by decide) rfl rfl (Nat.le_of_ble_eq_true rfl) (Nat.le_of_ble_eq_true rfl) (am_L.s f1 3 rfl) ?_
  refine EvM.mono k (fun r3 h2 k => ?_)
  obtain ⟨v4, rfl, k⟩ := k
  show Ev w _ _ _ 7 _ [.int v4] _ _
  refine Ev.aload_n 0 (am_dt kX3_wouldRing 3 rfl) rfl rfl ?_
  obtain ⟨f5, k⟩ := k
  refine Ev.getRe (ci := 3) (k := 1) (r := a0 + 6) (am_dt kX3_wouldRing 4 rfl) (by decide) (by decide) rfl wd_185 f5.1 (am_L.r f5 4 rfl) (by omega) ?_
  refine Ev.callV (ci := 0) (v := mX0_size) (As := []) (st := [.int v4]) okX0_size wd_232 wd_233 wd_234 (am_dt kX3_wouldRing 5 rfl) (by decide) rfl rfl (Nat.le_of_ble_eq_true rfl) (Nat.le_of_ble_eq_true rfl) (am_L.s f5 4 rfl) ?_
  refine EvM.mono k (fun r7 h6 k => ?_)
  obtain ⟨v8, rfl, k⟩ := k
  show Ev w _ _ _ 14 _ [.int v8, .int v4] _ _
  refine Ev.iadd (am_dt kX3_wouldRing 6 rfl) ?_
  refine Ev.if_eq (tgt := 27) (am_dt kX3_wouldRing 7 rfl) (by decide) (fun c => ?_) (fun c => ?_)
  · have k := k.1 c
    refine Ev.iconst (v := 0) (am_dt kX3_wouldRing 13 rfl) (by decide) ?_
    exact Ev.iret .boolean (am_dt kX3_wouldRing 14 rfl) rfl rfl k
  · have k := k.2 c
    refine Ev.aload_n 0 (am_dt kX3_wouldRing 8 rfl) rfl rfl ?_
    refine Ev.iload_n 1 (am_dt kX3_wouldRing 9 rfl) rfl rfl ?_
    obtain ⟨f9, k⟩ := k
    refine Ev.callV (ci := 3) (v := mX3_freeBoat) (As := [.int x1]) (st := []) okX3_freeBoat wd_252 wd_253 wd_254 (am_dt kX3_wouldRing 10 rfl) (by decide) rfl rfl (Nat.le_of_ble_eq_true rfl) (Nat.le_of_ble_eq_true rfl) f9.1 ?_
    refine EvM.mono k (fun r11 h10 k => ?_)
    obtain ⟨v12, rfl, k⟩ := k
    show Ev w _ _ _ 23 _ [.int v12] _ _
    refine Ev.iconst (v := (-1)) (am_dt kX3_wouldRing 11 rfl) (by decide) ?_
    refine Ev.icmp_ne (tgt := 29) (am_dt kX3_wouldRing 12 rfl) (by decide) (fun c => ?_) (fun c => ?_)
    · have k := k.2 c
      refine Ev.aload_n 0 (am_dt kX3_wouldRing 15 rfl) rfl rfl ?_
      refine Ev.iload_n 1 (am_dt kX3_wouldRing 16 rfl) rfl rfl ?_
      obtain ⟨f13, k⟩ := k
      refine Ev.callV (ci := 3) (v := mX3_gatherFacts) (As := [.int x1]) (st := []) okX3_gatherFacts wd_239 wd_240 wd_241 (am_dt kX3_wouldRing 17 rfl) (by decide) rfl rfl (Nat.le_of_ble_eq_true rfl) (Nat.le_of_ble_eq_true rfl) f13.1 ?_
      refine EvM.mono k (fun r15 h14 k => ?_)
      obtain ⟨rfl, k⟩ := k
      show Ev w _ _ _ 34 _ [] _ _
      refine Ev.aload_n 0 (am_dt kX3_wouldRing 18 rfl) rfl rfl ?_
      obtain ⟨f16, k⟩ := k
      obtain ⟨f17, k⟩ := k
      refine Ev.getR (ci := 3) (k := 12) (am_dt kX3_wouldRing 19 rfl) (by decide) (by decide) rfl wd_191 f16.1 f17 ?_
      refine Ev.aload_n 0 (am_dt kX3_wouldRing 20 rfl) rfl rfl ?_
      refine Ev.getI (ci := 3) (k := 15) (am_dt kX3_wouldRing 21 rfl) (by decide) (by decide) rfl wd_199 f16.1 ?_
      refine Ev.aload_n 0 (am_dt kX3_wouldRing 22 rfl) rfl rfl ?_
      refine Ev.getRe (ci := 3) (k := 8) (r := a0 + 2) (am_dt kX3_wouldRing 23 rfl) (by decide) (by decide) rfl wd_179 f16.1 (am_L.r f16 1 rfl) (by omega) ?_
      refine Ev.aload_n 0 (am_dt kX3_wouldRing 24 rfl) rfl rfl ?_
      refine Ev.getRe (ci := 3) (k := 9) (r := a0 + 3) (am_dt kX3_wouldRing 25 rfl) (by decide) (by decide) rfl wd_180 f16.1 (am_L.r f16 2 rfl) (by omega) ?_
      obtain ⟨f18, k⟩ := k
      refine Ev.callV (ci := 6) (v := mX6_lawValue) (As := [.int (hI h14 a0 15), .ref (a0 + 2), .ref (a0 + 3)]) (st := []) okX6_lawValue wd_242 wd_243 wd_244 (am_dt kX3_wouldRing 26 rfl) (by decide) rfl rfl (Nat.le_of_ble_eq_true rfl) (Nat.le_of_ble_eq_true rfl) f18.1 ?_
      refine EvM.mono k (fun r20 h19 k => ?_)
      obtain ⟨v21, rfl, k⟩ := k
      show Ev w _ _ _ 53 _ [.int v21] _ _
      refine Ev.if_eq (tgt := 60) (am_dt kX3_wouldRing 27 rfl) (by decide) (fun c => ?_) (fun c => ?_)
      · have k := k.1 c
        refine Ev.iconst (v := 0) (am_dt kX3_wouldRing 30 rfl) (by decide) ?_
        exact Ev.iret .boolean (am_dt kX3_wouldRing 31 rfl) rfl rfl k
      · have k := k.2 c
        refine Ev.iconst (v := 1) (am_dt kX3_wouldRing 28 rfl) (by decide) ?_
        refine Ev.goto (tgt := 61) (am_dt kX3_wouldRing 29 rfl) (by decide) ?_
        exact Ev.iret .boolean (am_dt kX3_wouldRing 31 rfl) rfl rfl k
    · have k := k.1 c
      refine Ev.iconst (v := 0) (am_dt kX3_wouldRing 13 rfl) (by decide) ?_
      exact Ev.iret .boolean (am_dt kX3_wouldRing 14 rfl) rfl rfl k
set_option maxRecDepth 20000 in
set_option maxHeartbeats 2000000 in
theorem bX3_wouldRingWith_0 {w : am_W} {d : Nat} {h : am_H} {Q : Option Value → am_H → Prop} {a0 : Nat} {x1 : Int32} {x2 : Int32} {x3 : Int32}  (k : (am_L 3 a0 h) ∧ (EvM w mX3_bankOf d [.ref a0, .int x1] h (fun r3 h2 => ∃ v4 : Nat, r3 = some (.ref v4) ∧ ((am_L 0 v4 h2) ∧ (∀ h6 : am_H, h6 = sI h2 v4 5 x2 → ((am_L 3 a0 h6) ∧ (EvM w mX3_wouldRing d [.ref a0, .int x3] h6 (fun r9 h8 => ∃ v10 : Int32, r9 = some (.int v10) ∧ ((am_L 0 v4 h8) ∧ (∀ h12 : am_H, h12 = sI h8 v4 5 0 → (narrow .boolean (.int v10) = .int v10 ∧ (Q (some (.int v10)) h12)))))))))))) : EvM w mX3_wouldRingWith (d + 1) [.ref a0, .int x1, .int x2, .int x3] h Q := by
  show Ev w (am_Z w) mX3_wouldRingWith (d + 1) 0 [(0, .ref a0), (1, .int x1), (2, .int x2), (3, .int x3)] [] h Q
  refine Ev.aload_n 0 (am_dt kX3_wouldRingWith 0 rfl) rfl rfl ?_
  refine Ev.iload_n 1 (am_dt kX3_wouldRingWith 1 rfl) rfl rfl ?_
  obtain ⟨f1, k⟩ := k
  refine Ev.callV (ci := 3) (v := mX3_bankOf) (As := [.int x1]) (st := []) okX3_bankOf wd_246 wd_247 wd_248 (am_dt kX3_wouldRingWith 2 rfl) (by decide) rfl rfl (Nat.le_of_ble_eq_true rfl) (Nat.le_of_ble_eq_true rfl) f1.1 ?_
  refine EvM.mono k (fun r3 h2 k => ?_)
  obtain ⟨v4, rfl, k⟩ := k
  show Ev w _ _ _ 5 _ [.ref v4] _ _
  refine Ev.astore (lv' := [(4, .ref v4), (0, .ref a0), (1, .int x1), (2, .int x2), (3, .int x3)]) (am_dt kX3_wouldRingWith 3 rfl) (by decide) rfl ?_
  refine Ev.aload 0 (am_dt kX3_wouldRingWith 4 rfl) rfl ?_
  refine Ev.iload_n 3 (am_dt kX3_wouldRingWith 5 rfl) rfl rfl ?_
  obtain ⟨f5, k⟩ := k
  refine Ev.putI' (ci := 0) (k := 5) (am_dt kX3_wouldRingWith 6 rfl) (by decide) (by decide) wd_255 rfl rfl rfl rfl f5.1 (fun h6 eh6 => ?_)
  have k := k h6 eh6
  have f5 := am_LsI eh6 f5
  refine Ev.aload_n 1 (am_dt kX3_wouldRingWith 7 rfl) rfl rfl ?_
  refine Ev.iload_n 4 (am_dt kX3_wouldRingWith 8 rfl) rfl rfl ?_
  obtain ⟨f7, k⟩ := k
  refine Ev.callV (ci := 3) (v := mX3_wouldRing) (As := [.int x3]) (st := []) okX3_wouldRing wd_218 wd_219 wd_220 (am_dt kX3_wouldRingWith 9 rfl) (by decide) rfl rfl (Nat.le_of_ble_eq_true rfl) (Nat.le_of_ble_eq_true rfl) f7.1 ?_
  refine EvM.mono k (fun r9 h8 k => ?_)
  obtain ⟨v10, rfl, k⟩ := k
  show Ev w _ _ _ 18 _ [.int v10] _ _
  refine Ev.istore (lv' := [(5, .int v10), (4, .ref v4), (0, .ref a0), (1, .int x1), (2, .int x2), (3, .int x3)]) (am_dt kX3_wouldRingWith 10 rfl) (by decide) rfl ?_
  refine Ev.aload 1 (am_dt kX3_wouldRingWith 11 rfl) rfl ?_
  refine Ev.iconst (v := 0) (am_dt kX3_wouldRingWith 12 rfl) (by decide) ?_
  obtain ⟨f11, k⟩ := k
  refine Ev.putI' (ci := 0) (k := 5) (am_dt kX3_wouldRingWith 13 rfl) (by decide) (by decide) wd_255 rfl rfl rfl rfl f11.1 (fun h12 eh12 => ?_)
  have k := k h12 eh12
  have f11 := am_LsI eh12 f11
  refine Ev.iload 0 (am_dt kX3_wouldRingWith 14 rfl) rfl ?_
  exact Ev.iret .boolean (am_dt kX3_wouldRingWith 15 rfl) rfl k.1 k.2
set_option maxRecDepth 20000 in
set_option maxHeartbeats 2000000 in
theorem bX3_freeBoat_0 {w : am_W} {d : Nat} {h : am_H} {Q : Option Value → am_H → Prop} {a0 : Nat} {x1 : Int32}  (k : Ev w (am_Z w) mX3_freeBoat (d + 1) 2 [(0, .ref a0), (1, .int x1), (2, .int 0)] [] h Q) : EvM w mX3_freeBoat (d + 1) [.ref a0, .int x1] h Q := by
  show Ev w (am_Z w) mX3_freeBoat (d + 1) 0 [(0, .ref a0), (1, .int x1)] [] h Q
  refine Ev.iconst (v := 0) (am_dt kX3_freeBoat 0 rfl) (by decide) ?_
  refine Ev.istore_n (lv' := [(2, .int 0), (0, .ref a0), (1, .int x1)]) (am_dt kX3_freeBoat 1 rfl) rfl (by decide) rfl ?_
  exact Ev.sub [1, 2, 0] rfl k
set_option maxRecDepth 20000 in
set_option maxHeartbeats 2000000 in
theorem bX3_freeBoat_2 {w : am_W} {d : Nat} {h : am_H} {Q : Option Value → am_H → Prop} {a0 : Nat} {x1 : Int32} {x2 : Int32}  (k : (am_L 3 a0 h) ∧ ((hR h a0 12 ≠ 0) ∧ ((am_L 6 (hR h a0 12) h) ∧ (((hI h (hR h a0 12) 8) ≤ x2 → (Q (some (.int ((-1)))) h)) ∧ (¬ (hI h (hR h a0 12) 8) ≤ x2 → (EvM w mX9_get d [.ref (a0 + 1), .int x2] h (fun r5 h4 => ∃ v6 : Int32, r5 = some (.int v6) ∧ ((x1 < v6 → (Ev w (am_Z w) mX3_freeBoat (d + 1) 2 [(0, .ref a0), (1, .int x1), (2, .int (x2 + 1))] [] h4 Q)) ∧ (¬ x1 < v6 → (Q (some (.int x2)) h4)))))))))) : Ev w (am_Z w) mX3_freeBoat (d + 1) 2 [(0, .ref a0), (1, .int x1), (2, .int x2)] [] h Q := by
  refine Ev.iload_n 2 (am_dt kX3_freeBoat 2 rfl) rfl rfl ?_
  refine Ev.aload_n 0 (am_dt kX3_freeBoat 3 rfl) rfl rfl ?_
  obtain ⟨f1, k⟩ := k
  obtain ⟨f2, k⟩ := k
  refine Ev.getR (ci := 3) (k := 12) (am_dt kX3_freeBoat 4 rfl) (by decide) (by decide) rfl wd_191 f1.1 f2 ?_
  obtain ⟨f3, k⟩ := k
  refine Ev.getI (ci := 6) (k := 8) (am_dt kX3_freeBoat 5 rfl) (by decide) (by decide) rfl wd_228 f3.1 ?_
  refine Ev.icmp_ge (tgt := 33) (am_dt kX3_freeBoat 6 rfl) (by decide) (fun c => ?_) (fun c => ?_)
  · have k := k.1 c
    refine Ev.iconst (v := (-1)) (am_dt kX3_freeBoat 17 rfl) (by decide) ?_
    exact Ev.iret .int (am_dt kX3_freeBoat 18 rfl) rfl rfl k
  · have k := k.2 c
    refine Ev.aload_n 0 (am_dt kX3_freeBoat 7 rfl) rfl rfl ?_
    refine Ev.getRe (ci := 3) (k := 7) (r := a0 + 1) (am_dt kX3_freeBoat 8 rfl) (by decide) (by decide) rfl wd_178 f1.1 (am_L.r f1 0 rfl) (by omega) ?_
    refine Ev.iload_n 2 (am_dt kX3_freeBoat 9 rfl) rfl rfl ?_
    refine Ev.callSN (v := mX9_get) (As := [.ref (a0 + 1), .int x2]) (st := []) okX9_get wd_19 wd_238 (am_dt kX3_freeBoat 10 rfl) rfl rfl (Nat.le_of_ble_eq_true rfl) (Nat.le_of_ble_eq_true rfl) ?_
    refine EvM.mono k (fun r5 h4 k => ?_)
    obtain ⟨v6, rfl, k⟩ := k
    show Ev w _ _ _ 21 _ [.int v6] _ _
    refine Ev.iload_n 1 (am_dt kX3_freeBoat 11 rfl) rfl rfl ?_
    refine Ev.icmp_gt (tgt := 27) (am_dt kX3_freeBoat 12 rfl) (by decide) (fun c => ?_) (fun c => ?_)
    · have k := k.1 c
      refine Ev.iinc (v := x2 + 1) (lv' := [(2, .int (x2 + 1)), (0, .ref a0), (1, .int x1)]) 2 (am_dt kX3_freeBoat 15 rfl) rfl rfl (by decide) rfl ?_
      refine Ev.goto (tgt := 2) (am_dt kX3_freeBoat 16 rfl) (by decide) ?_
      exact Ev.sub [1, 2, 0] rfl k
    · have k := k.2 c
      refine Ev.iload_n 2 (am_dt kX3_freeBoat 13 rfl) rfl rfl ?_
      exact Ev.iret .int (am_dt kX3_freeBoat 14 rfl) rfl rfl k
set_option maxRecDepth 20000 in
set_option maxHeartbeats 2000000 in
theorem bX3_gatherFacts_0 {w : am_W} {d : Nat} {h : am_H} {Q : Option Value → am_H → Prop} {a0 : Nat} {x1 : Int32}  (k : (am_L 3 a0 h) ∧ (EvM w mX0_countWithGuests d [.ref (a0 + 4)] h (fun r3 h2 => ∃ v4 : Int32, r3 = some (.int v4) ∧ (EvM w mX9_set d [.ref (a0 + 2), .int 0, .int v4] h2 (fun r6 h5 => r6 = none ∧ ((am_L 3 a0 h5) ∧ (EvM w mX0_countWithGuests d [.ref (a0 + 6)] h5 (fun r9 h8 => ∃ v10 : Int32, r9 = some (.int v10) ∧ (EvM w mX9_set d [.ref (a0 + 2), .int 1, .int v10] h8 (fun r12 h11 => r12 = none ∧ ((am_L 3 a0 h11) ∧ (EvM w mX0_loadWithGuests d [.ref (a0 + 4)] h11 (fun r15 h14 => ∃ v16 : Int32, r15 = some (.int v16) ∧ (EvM w mX9_set d [.ref (a0 + 2), .int 2, .int v16] h14 (fun r18 h17 => r18 = none ∧ ((am_L 3 a0 h17) ∧ (EvM w mX0_loadWithGuests d [.ref (a0 + 6)] h17 (fun r21 h20 => ∃ v22 : Int32, r21 = some (.int v22) ∧ (EvM w mX9_set d [.ref (a0 + 2), .int 3, .int v22] h20 (fun r24 h23 => r24 = none ∧ ((am_L 3 a0 h23) ∧ (EvM w mX3_earliest d [.ref a0, .ref (a0 + 4), .int x1] h23 (fun r27 h26 => ∃ v28 : Int32, r27 = some (.int v28) ∧ ((am_L 3 a0 h26) ∧ (EvM w mX3_earliest d [.ref a0, .ref (a0 + 6), .int x1] h26 (fun r31 h30 => ∃ v32 : Int32, r31 = some (.int v32) ∧ (EvM w mX9_set d [.ref (a0 + 2), .int 4, .int (x1 - (if v32 < v28 then v32 else v28))] h30 (fun r34 h33 => r34 = none ∧ ((am_L 3 a0 h33) ∧ (EvM w mX9_set d [.ref (a0 + 2), .int 5, .int x1] h33 (fun r37 h36 => r37 = none ∧ (Q none h36)))))))))))))))))))))))))))))))) : EvM w mX3_gatherFacts (d + 1) [.ref a0, .int x1] h Q := by
  show Ev w (am_Z w) mX3_gatherFacts (d + 1) 0 [(0, .ref a0), (1, .int x1)] [] h Q
  refine Ev.aload_n 0 (am_dt kX3_gatherFacts 0 rfl) rfl rfl ?_
  obtain ⟨f1, k⟩ := k
  refine Ev.getRe (ci := 3) (k := 8) (r := a0 + 2) (am_dt kX3_gatherFacts 1 rfl) (by decide) (by decide) rfl wd_179 f1.1 (am_L.r f1 1 rfl) (by omega) ?_
  refine Ev.iconst (v := 0) (am_dt kX3_gatherFacts 2 rfl) (by decide) ?_
  refine Ev.aload_n 0 (am_dt kX3_gatherFacts 3 rfl) rfl rfl ?_
  refine Ev.getRe (ci := 3) (k := 0) (r := a0 + 4) (am_dt kX3_gatherFacts 4 rfl) (by decide) (by decide) rfl wd_184 f1.1 (am_L.r f1 3 rfl) (by omega) ?_
  refine Ev.callV (ci := 0) (v := mX0_countWithGuests) (As := []) (st := [.int 0, .ref (a0 + 2)]) okX0_countWithGuests wd_256 wd_257 wd_258 (am_dt kX3_gatherFacts 5 rfl) (by decide) rfl rfl (Nat.le_of_ble_eq_true rfl) (Nat.le_of_ble_eq_true rfl) (am_L.s f1 3 rfl) ?_
  refine EvM.mono k (fun r3 h2 k => ?_)
  obtain ⟨v4, rfl, k⟩ := k
  show Ev w _ _ _ 12 _ [.int v4, .int 0, .ref (a0 + 2)] _ _
  refine Ev.callSN (v := mX9_set) (As := [.ref (a0 + 2), .int 0, .int v4]) (st := []) okX9_set wd_16 wd_201 (am_dt kX3_gatherFacts 6 rfl) rfl rfl (Nat.le_of_ble_eq_true rfl) (Nat.le_of_ble_eq_true rfl) ?_
  refine EvM.mono k (fun r6 h5 k => ?_)
  obtain ⟨rfl, k⟩ := k
  show Ev w _ _ _ 15 _ [] _ _
  refine Ev.aload_n 0 (am_dt kX3_gatherFacts 7 rfl) rfl rfl ?_
  obtain ⟨f7, k⟩ := k
  refine Ev.getRe (ci := 3) (k := 8) (r := a0 + 2) (am_dt kX3_gatherFacts 8 rfl) (by decide) (by decide) rfl wd_179 f7.1 (am_L.r f7 1 rfl) (by omega) ?_
  refine Ev.iconst (v := 1) (am_dt kX3_gatherFacts 9 rfl) (by decide) ?_
  refine Ev.aload_n 0 (am_dt kX3_gatherFacts 10 rfl) rfl rfl ?_
  refine Ev.getRe (ci := 3) (k := 1) (r := a0 + 6) (am_dt kX3_gatherFacts 11 rfl) (by decide) (by decide) rfl wd_185 f7.1 (am_L.r f7 4 rfl) (by omega) ?_
  refine Ev.callV (ci := 0) (v := mX0_countWithGuests) (As := []) (st := [.int 1, .ref (a0 + 2)]) okX0_countWithGuests wd_256 wd_257 wd_258 (am_dt kX3_gatherFacts 12 rfl) (by decide) rfl rfl (Nat.le_of_ble_eq_true rfl) (Nat.le_of_ble_eq_true rfl) (am_L.s f7 4 rfl) ?_
  refine EvM.mono k (fun r9 h8 k => ?_)
  obtain ⟨v10, rfl, k⟩ := k
  show Ev w _ _ _ 27 _ [.int v10, .int 1, .ref (a0 + 2)] _ _
  refine Ev.callSN (v := mX9_set) (As := [.ref (a0 + 2), .int 1, .int v10]) (st := []) okX9_set wd_16 wd_201 (am_dt kX3_gatherFacts 13 rfl) rfl rfl (Nat.le_of_ble_eq_true rfl) (Nat.le_of_ble_eq_true rfl) ?_
  refine EvM.mono k (fun r12 h11 k => ?_)
  obtain ⟨rfl, k⟩ := k
  show Ev w _ _ _ 30 _ [] _ _
  refine Ev.aload_n 0 (am_dt kX3_gatherFacts 14 rfl) rfl rfl ?_
  obtain ⟨f13, k⟩ := k
  refine Ev.getRe (ci := 3) (k := 8) (r := a0 + 2) (am_dt kX3_gatherFacts 15 rfl) (by decide) (by decide) rfl wd_179 f13.1 (am_L.r f13 1 rfl) (by omega) ?_
  refine Ev.iconst (v := 2) (am_dt kX3_gatherFacts 16 rfl) (by decide) ?_
  refine Ev.aload_n 0 (am_dt kX3_gatherFacts 17 rfl) rfl rfl ?_
  refine Ev.getRe (ci := 3) (k := 0) (r := a0 + 4) (am_dt kX3_gatherFacts 18 rfl) (by decide) (by decide) rfl wd_184 f13.1 (am_L.r f13 3 rfl) (by omega) ?_
  refine Ev.callV (ci := 0) (v := mX0_loadWithGuests) (As := []) (st := [.int 2, .ref (a0 + 2)]) okX0_loadWithGuests wd_259 wd_260 wd_261 (am_dt kX3_gatherFacts 19 rfl) (by decide) rfl rfl (Nat.le_of_ble_eq_true rfl) (Nat.le_of_ble_eq_true rfl) (am_L.s f13 3 rfl) ?_
  refine EvM.mono k (fun r15 h14 k => ?_)
  obtain ⟨v16, rfl, k⟩ := k
  show Ev w _ _ _ 42 _ [.int v16, .int 2, .ref (a0 + 2)] _ _
  refine Ev.callSN (v := mX9_set) (As := [.ref (a0 + 2), .int 2, .int v16]) (st := []) okX9_set wd_16 wd_201 (am_dt kX3_gatherFacts 20 rfl) rfl rfl (Nat.le_of_ble_eq_true rfl) (Nat.le_of_ble_eq_true rfl) ?_
  refine EvM.mono k (fun r18 h17 k => ?_)
  obtain ⟨rfl, k⟩ := k
  show Ev w _ _ _ 45 _ [] _ _
  refine Ev.aload_n 0 (am_dt kX3_gatherFacts 21 rfl) rfl rfl ?_
  obtain ⟨f19, k⟩ := k
  refine Ev.getRe (ci := 3) (k := 8) (r := a0 + 2) (am_dt kX3_gatherFacts 22 rfl) (by decide) (by decide) rfl wd_179 f19.1 (am_L.r f19 1 rfl) (by omega) ?_
  refine Ev.iconst (v := 3) (am_dt kX3_gatherFacts 23 rfl) (by decide) ?_
  refine Ev.aload_n 0 (am_dt kX3_gatherFacts 24 rfl) rfl rfl ?_
  refine Ev.getRe (ci := 3) (k := 1) (r := a0 + 6) (am_dt kX3_gatherFacts 25 rfl) (by decide) (by decide) rfl wd_185 f19.1 (am_L.r f19 4 rfl) (by omega) ?_
  refine Ev.callV (ci := 0) (v := mX0_loadWithGuests) (As := []) (st := [.int 3, .ref (a0 + 2)]) okX0_loadWithGuests wd_259 wd_260 wd_261 (am_dt kX3_gatherFacts 26 rfl) (by decide) rfl rfl (Nat.le_of_ble_eq_true rfl) (Nat.le_of_ble_eq_true rfl) (am_L.s f19 4 rfl) ?_
  refine EvM.mono k (fun r21 h20 k => ?_)
  obtain ⟨v22, rfl, k⟩ := k
  show Ev w _ _ _ 57 _ [.int v22, .int 3, .ref (a0 + 2)] _ _
  refine Ev.callSN (v := mX9_set) (As := [.ref (a0 + 2), .int 3, .int v22]) (st := []) okX9_set wd_16 wd_201 (am_dt kX3_gatherFacts 27 rfl) rfl rfl (Nat.le_of_ble_eq_true rfl) (Nat.le_of_ble_eq_true rfl) ?_
  refine EvM.mono k (fun r24 h23 k => ?_)
  obtain ⟨rfl, k⟩ := k
  show Ev w _ _ _ 60 _ [] _ _
  refine Ev.aload_n 0 (am_dt kX3_gatherFacts 28 rfl) rfl rfl ?_
  obtain ⟨f25, k⟩ := k
  refine Ev.getRe (ci := 3) (k := 8) (r := a0 + 2) (am_dt kX3_gatherFacts 29 rfl) (by decide) (by decide) rfl wd_179 f25.1 (am_L.r f25 1 rfl) (by omega) ?_
  refine Ev.iconst (v := 4) (am_dt kX3_gatherFacts 30 rfl) (by decide) ?_
  refine Ev.iload_n 1 (am_dt kX3_gatherFacts 31 rfl) rfl rfl ?_
  refine Ev.aload_n 0 (am_dt kX3_gatherFacts 32 rfl) rfl rfl ?_
  refine Ev.aload_n 0 (am_dt kX3_gatherFacts 33 rfl) rfl rfl ?_
  refine Ev.getRe (ci := 3) (k := 0) (r := a0 + 4) (am_dt kX3_gatherFacts 34 rfl) (by decide) (by decide) rfl wd_184 f25.1 (am_L.r f25 3 rfl) (by omega) ?_
  refine Ev.iload_n 1 (am_dt kX3_gatherFacts 35 rfl) rfl rfl ?_
  refine Ev.callV (ci := 3) (v := mX3_earliest) (As := [.ref (a0 + 4), .int x1]) (st := [.int x1, .int 4, .ref (a0 + 2)]) okX3_earliest wd_262 wd_263 wd_264 (am_dt kX3_gatherFacts 36 rfl) (by decide) rfl rfl (Nat.le_of_ble_eq_true rfl) (Nat.le_of_ble_eq_true rfl) f25.1 ?_
  refine EvM.mono k (fun r27 h26 k => ?_)
  obtain ⟨v28, rfl, k⟩ := k
  show Ev w _ _ _ 75 _ [.int v28, .int x1, .int 4, .ref (a0 + 2)] _ _
  refine Ev.aload_n 0 (am_dt kX3_gatherFacts 37 rfl) rfl rfl ?_
  refine Ev.aload_n 0 (am_dt kX3_gatherFacts 38 rfl) rfl rfl ?_
  obtain ⟨f29, k⟩ := k
  refine Ev.getRe (ci := 3) (k := 1) (r := a0 + 6) (am_dt kX3_gatherFacts 39 rfl) (by decide) (by decide) rfl wd_185 f29.1 (am_L.r f29 4 rfl) (by omega) ?_
  refine Ev.iload_n 1 (am_dt kX3_gatherFacts 40 rfl) rfl rfl ?_
  refine Ev.callV (ci := 3) (v := mX3_earliest) (As := [.ref (a0 + 6), .int x1]) (st := [.int v28, .int x1, .int 4, .ref (a0 + 2)]) okX3_earliest wd_262 wd_263 wd_264 (am_dt kX3_gatherFacts 41 rfl) (by decide) rfl rfl (Nat.le_of_ble_eq_true rfl) (Nat.le_of_ble_eq_true rfl) f29.1 ?_
  refine EvM.mono k (fun r31 h30 k => ?_)
  obtain ⟨v32, rfl, k⟩ := k
  show Ev w _ _ _ 84 _ [.int v32, .int v28, .int x1, .int 4, .ref (a0 + 2)] _ _
  refine Ev.mmin wd_227 wd_74 wd_6 wd_75 (am_dt kX3_gatherFacts 42 rfl) (Nat.le_of_ble_eq_true rfl) ?_
  refine Ev.isub (am_dt kX3_gatherFacts 43 rfl) ?_
  refine Ev.callSN (v := mX9_set) (As := [.ref (a0 + 2), .int 4, .int (x1 - (if v32 < v28 then v32 else v28))]) (st := []) okX9_set wd_16 wd_201 (am_dt kX3_gatherFacts 44 rfl) rfl rfl (Nat.le_of_ble_eq_true rfl) (Nat.le_of_ble_eq_true rfl) ?_
  refine EvM.mono k (fun r34 h33 k => ?_)
  obtain ⟨rfl, k⟩ := k
  show Ev w _ _ _ 91 _ [] _ _
  refine Ev.aload_n 0 (am_dt kX3_gatherFacts 45 rfl) rfl rfl ?_
  obtain ⟨f35, k⟩ := k
  refine Ev.getRe (ci := 3) (k := 8) (r := a0 + 2) (am_dt kX3_gatherFacts 46 rfl) (by decide) (by decide) rfl wd_179 f35.1 (am_L.r f35 1 rfl) (by omega) ?_
  refine Ev.iconst (v := 5) (am_dt kX3_gatherFacts 47 rfl) (by decide) ?_
  refine Ev.iload_n 1 (am_dt kX3_gatherFacts 48 rfl) rfl rfl ?_
  refine Ev.callSN (v := mX9_set) (As := [.ref (a0 + 2), .int 5, .int x1]) (st := []) okX9_set wd_16 wd_201 (am_dt kX3_gatherFacts 49 rfl) rfl rfl (Nat.le_of_ble_eq_true rfl) (Nat.le_of_ble_eq_true rfl) ?_
  refine EvM.mono k (fun r37 h36 k => ?_)
  obtain ⟨rfl, k⟩ := k
  show Ev w _ _ _ 100 _ [] _ _
  exact Ev.vret (am_dt kX3_gatherFacts 50 rfl) rfl k
set_option maxRecDepth 20000 in
set_option maxHeartbeats 2000000 in
theorem bX3_earliest_0 {w : am_W} {d : Nat} {h : am_H} {Q : Option Value → am_H → Prop} {a0 : Nat} {a1 : Nat} {x2 : Int32}  (k : (am_L 0 a1 h) ∧ (((hI h a1 1) < 0 → (Ev w (am_Z w) mX3_earliest d 53 [(0, .ref a0), (2, .int x2)] [.int ((-1))] h Q)) ∧ (¬ (hI h a1 1) < 0 → (((hI h a1 2) ≤ (hI h a1 1) → (Ev w (am_Z w) mX3_earliest d 53 [(0, .ref a0), (2, .int x2)] [.int ((-1))] h Q)) ∧ (¬ (hI h a1 2) ≤ (hI h a1 1) → (((nI (hN h (a1 + 1))) ≤ (hI h a1 1) → (Ev w (am_Z w) mX3_earliest d 53 [(0, .ref a0), (2, .int x2)] [.int ((-1))] h Q)) ∧ (¬ (nI (hN h (a1 + 1))) ≤ (hI h a1 1) → ((vp_in (hI h a1 1) (hN h (a1 + 1))) ∧ (Ev w (am_Z w) mX3_earliest d 53 [(0, .ref a0), (2, .int x2)] [.int (hI h (a1 + 1) (Int32.toNatClampNeg (hI h a1 1)))] h Q))))))))) : EvM w mX3_earliest d [.ref a0, .ref a1, .int x2] h Q := by
  show Ev w (am_Z w) mX3_earliest d 0 [(0, .ref a0), (1, .ref a1), (2, .int x2)] [] h Q
  refine Ev.aload_n 1 (am_dt kX3_earliest 0 rfl) rfl rfl ?_
  obtain ⟨f1, k⟩ := k
  refine Ev.getI (ci := 0) (k := 1) (am_dt kX3_earliest 1 rfl) (by decide) (by decide) rfl wd_265 f1.1 ?_
  refine Ev.if_lt (tgt := 34) (am_dt kX3_earliest 2 rfl) (by decide) (fun c => ?_) (fun c => ?_)
  · have k := k.1 c
    refine Ev.iconst (v := 0) (am_dt kX3_earliest 16 rfl) (by decide) ?_
    refine Ev.istore_n (lv' := [(3, .int 0), (0, .ref a0), (1, .ref a1), (2, .int x2)]) (am_dt kX3_earliest 17 rfl) rfl (by decide) rfl ?_
    refine Ev.iload_n 0 (am_dt kX3_earliest 18 rfl) rfl rfl ?_
    refine Ev.if_eq (tgt := 52) (am_dt kX3_earliest 19 rfl) (by decide) (fun c => ?_) (fun c => ?_)
    · refine Ev.iconst (v := (-1)) (am_dt kX3_earliest 26 rfl) (by decide) ?_
      exact Ev.sub [1, 3] rfl k
    · exact absurd (by decide) c
  · have k := k.2 c
    refine Ev.aload_n 1 (am_dt kX3_earliest 3 rfl) rfl rfl ?_
    refine Ev.getI (ci := 0) (k := 1) (am_dt kX3_earliest 4 rfl) (by decide) (by decide) rfl wd_265 f1.1 ?_
    refine Ev.aload_n 1 (am_dt kX3_earliest 5 rfl) rfl rfl ?_
    refine Ev.getI (ci := 0) (k := 2) (am_dt kX3_earliest 6 rfl) (by decide) (by decide) rfl wd_266 f1.1 ?_
    refine Ev.icmp_ge (tgt := 34) (am_dt kX3_earliest 7 rfl) (by decide) (fun c => ?_) (fun c => ?_)
    · have k := k.1 c
      refine Ev.iconst (v := 0) (am_dt kX3_earliest 16 rfl) (by decide) ?_
      refine Ev.istore_n (lv' := [(3, .int 0), (0, .ref a0), (1, .ref a1), (2, .int x2)]) (am_dt kX3_earliest 17 rfl) rfl (by decide) rfl ?_
      refine Ev.iload_n 0 (am_dt kX3_earliest 18 rfl) rfl rfl ?_
      refine Ev.if_eq (tgt := 52) (am_dt kX3_earliest 19 rfl) (by decide) (fun c => ?_) (fun c => ?_)
      · refine Ev.iconst (v := (-1)) (am_dt kX3_earliest 26 rfl) (by decide) ?_
        exact Ev.sub [1, 3] rfl k
      · exact absurd (by decide) c
    · have k := k.2 c
      refine Ev.aload_n 1 (am_dt kX3_earliest 8 rfl) rfl rfl ?_
      refine Ev.getI (ci := 0) (k := 1) (am_dt kX3_earliest 9 rfl) (by decide) (by decide) rfl wd_265 f1.1 ?_
      refine Ev.aload_n 1 (am_dt kX3_earliest 10 rfl) rfl rfl ?_
      refine Ev.getRe (ci := 0) (k := 0) (r := a1 + 1) (am_dt kX3_earliest 11 rfl) (by decide) (by decide) rfl wd_267 f1.1 (am_L.r f1 0 rfl) (by omega) ?_
      refine Ev.alen 12 (am_dt kX3_earliest 12 rfl) (by decide) (by decide) (am_L.s f1 0 rfl) ?_
      refine Ev.icmp_ge (tgt := 34) (am_dt kX3_earliest 13 rfl) (by decide) (fun c => ?_) (fun c => ?_)
      · have k := k.1 c
        refine Ev.iconst (v := 0) (am_dt kX3_earliest 16 rfl) (by decide) ?_
        refine Ev.istore_n (lv' := [(3, .int 0), (0, .ref a0), (1, .ref a1), (2, .int x2)]) (am_dt kX3_earliest 17 rfl) rfl (by decide) rfl ?_
        refine Ev.iload_n 0 (am_dt kX3_earliest 18 rfl) rfl rfl ?_
        refine Ev.if_eq (tgt := 52) (am_dt kX3_earliest 19 rfl) (by decide) (fun c => ?_) (fun c => ?_)
        · refine Ev.iconst (v := (-1)) (am_dt kX3_earliest 26 rfl) (by decide) ?_
          exact Ev.sub [1, 3] rfl k
        · exact absurd (by decide) c
      · have k := k.2 c
        refine Ev.iconst (v := 1) (am_dt kX3_earliest 14 rfl) (by decide) ?_
        refine Ev.goto (tgt := 35) (am_dt kX3_earliest 15 rfl) (by decide) ?_
        refine Ev.istore_n (lv' := [(3, .int 1), (0, .ref a0), (1, .ref a1), (2, .int x2)]) (am_dt kX3_earliest 17 rfl) rfl (by decide) rfl ?_
        refine Ev.iload_n 0 (am_dt kX3_earliest 18 rfl) rfl rfl ?_
        refine Ev.if_eq (tgt := 52) (am_dt kX3_earliest 19 rfl) (by decide) (fun c => ?_) (fun c => ?_)
        · exact absurd c (by decide)
        · refine Ev.aload_n 2 (am_dt kX3_earliest 20 rfl) rfl rfl ?_
          refine Ev.getRe (ci := 0) (k := 0) (r := a1 + 1) (am_dt kX3_earliest 21 rfl) (by decide) (by decide) rfl wd_267 f1.1 (am_L.r f1 0 rfl) (by omega) ?_
          refine Ev.aload_n 2 (am_dt kX3_earliest 22 rfl) rfl rfl ?_
          refine Ev.getI (ci := 0) (k := 1) (am_dt kX3_earliest 23 rfl) (by decide) (by decide) rfl wd_265 f1.1 ?_
          obtain ⟨f2, k⟩ := k
          refine Ev.iald (am_dt kX3_earliest 24 rfl) (am_L.s f1 0 rfl) f2 ?_
          refine Ev.goto (tgt := 53) (am_dt kX3_earliest 25 rfl) (by decide) ?_
          exact Ev.sub [1, 3] rfl k
set_option maxRecDepth 20000 in
set_option maxHeartbeats 2000000 in
theorem bX3_earliest_53 {w : am_W} {d : Nat} {h : am_H} {Q : Option Value → am_H → Prop} {a0 : Nat} {x2 : Int32} {s0 : Int32} (k : (s0 < 0 → (Q (some (.int x2)) h)) ∧ (¬ s0 < 0 → ((am_L 3 a0 h) ∧ ((hR h a0 13 ≠ 0) ∧ ((am_L 2 (hR h a0 13) h) ∧ (((nI (hN h ((hR h a0 13) + 1))) ≤ s0 → (Q (some (.int x2)) h)) ∧ (¬ (nI (hN h ((hR h a0 13) + 1))) ≤ s0 → ((vp_in s0 (hN h ((hR h a0 13) + 1))) ∧ (Q (some (.int (hI h ((hR h a0 13) + 1) (Int32.toNatClampNeg s0)))) h))))))))) : Ev w (am_Z w) mX3_earliest d 53 [(0, .ref a0), (2, .int x2)] [.int s0] h Q := by
  refine Ev.istore (lv' := [(4, .int s0), (0, .ref a0), (2, .int x2)]) (am_dt kX3_earliest 27 rfl) (by decide) rfl ?_
  refine Ev.iload 0 (am_dt kX3_earliest 28 rfl) rfl ?_
  refine Ev.if_lt (tgt := 86) (am_dt kX3_earliest 29 rfl) (by decide) (fun c => ?_) (fun c => ?_)
  · have k := k.1 c
    refine Ev.iload_n 2 (am_dt kX3_earliest 42 rfl) rfl rfl ?_
    exact Ev.iret .int (am_dt kX3_earliest 43 rfl) rfl rfl k
  · have k := k.2 c
    refine Ev.iload 0 (am_dt kX3_earliest 30 rfl) rfl ?_
    refine Ev.aload_n 1 (am_dt kX3_earliest 31 rfl) rfl rfl ?_
    obtain ⟨f1, k⟩ := k
    obtain ⟨f2, k⟩ := k
    refine Ev.getR (ci := 3) (k := 13) (am_dt kX3_earliest 32 rfl) (by decide) (by decide) rfl wd_193 f1.1 f2 ?_
    obtain ⟨f3, k⟩ := k
    refine Ev.getRe (ci := 2) (k := 0) (r := (hR h a0 13) + 1) (am_dt kX3_earliest 33 rfl) (by decide) (by decide) rfl wd_268 f3.1 (am_L.r f3 0 rfl) (by omega) ?_
    refine Ev.alen 12 (am_dt kX3_earliest 34 rfl) (by decide) (by decide) (am_L.s f3 0 rfl) ?_
    refine Ev.icmp_ge (tgt := 86) (am_dt kX3_earliest 35 rfl) (by decide) (fun c => ?_) (fun c => ?_)
    · have k := k.1 c
      refine Ev.iload_n 2 (am_dt kX3_earliest 42 rfl) rfl rfl ?_
      exact Ev.iret .int (am_dt kX3_earliest 43 rfl) rfl rfl k
    · have k := k.2 c
      refine Ev.aload_n 1 (am_dt kX3_earliest 36 rfl) rfl rfl ?_
      refine Ev.getR (ci := 3) (k := 13) (am_dt kX3_earliest 37 rfl) (by decide) (by decide) rfl wd_193 f1.1 f2 ?_
      refine Ev.getRe (ci := 2) (k := 0) (r := (hR h a0 13) + 1) (am_dt kX3_earliest 38 rfl) (by decide) (by decide) rfl wd_268 f3.1 (am_L.r f3 0 rfl) (by omega) ?_
      refine Ev.iload 0 (am_dt kX3_earliest 39 rfl) rfl ?_
      obtain ⟨f4, k⟩ := k
      refine Ev.iald (am_dt kX3_earliest 40 rfl) (am_L.s f3 0 rfl) f4 ?_
      refine Ev.goto (tgt := 87) (am_dt kX3_earliest 41 rfl) (by decide) ?_
      exact Ev.iret .int (am_dt kX3_earliest 43 rfl) rfl rfl k
set_option maxRecDepth 20000 in
set_option maxHeartbeats 2000000 in
theorem bX3_goOver_0 {w : am_W} {d : Nat} {h : am_H} {Q : Option Value → am_H → Prop} {a0 : Nat} {x1 : Int32}  (k : (am_L 3 a0 h) ∧ (EvM w mX3_freeBoat d [.ref a0, .int x1] h (fun r3 h2 => ∃ v4 : Int32, r3 = some (.int v4) ∧ ((am_L 3 a0 h2) ∧ ((hR h2 a0 12 ≠ 0) ∧ ((am_L 6 (hR h2 a0 12) h2) ∧ (EvM w mX9_set d [.ref (a0 + 1), .int v4, .int (x1 + (hI h2 (hR h2 a0 12) 7))] h2 (fun r9 h8 => r9 = none ∧ ((am_L 3 a0 h8) ∧ (EvM w mX9_set d [.ref (a0 + 10), .int (hI h8 a0 10), .int x1] h8 (fun r12 h11 => r12 = none ∧ ((am_L 3 a0 h11) ∧ (EvM w mX3_board d [.ref a0, .ref (a0 + 4), .int x1] h11 (fun r15 h14 => ∃ v16 : Int32, r15 = some (.int v16) ∧ (EvM w mX9_set d [.ref (a0 + 11), .int (hI h11 a0 10), .int v16] h14 (fun r18 h17 => r18 = none ∧ ((am_L 3 a0 h17) ∧ (EvM w mX3_board d [.ref a0, .ref (a0 + 6), .int x1] h17 (fun r21 h20 => ∃ v22 : Int32, r21 = some (.int v22) ∧ (EvM w mX9_set d [.ref (a0 + 12), .int (hI h17 a0 10), .int v22] h20 (fun r24 h23 => r24 = none ∧ ((am_L 3 a0 h23) ∧ (∀ h26 : am_H, h26 = sI h23 a0 10 ((hI h23 a0 10) + 1) → (Q none h26)))))))))))))))))))))))) : EvM w mX3_goOver (d + 1) [.ref a0, .int x1] h Q := by
  show Ev w (am_Z w) mX3_goOver (d + 1) 0 [(0, .ref a0), (1, .int x1)] [] h Q
  refine Ev.aload_n 0 (am_dt kX3_goOver 0 rfl) rfl rfl ?_
  obtain ⟨f1, k⟩ := k
  refine Ev.getRe (ci := 3) (k := 7) (r := a0 + 1) (am_dt kX3_goOver 1 rfl) (by decide) (by decide) rfl wd_178 f1.1 (am_L.r f1 0 rfl) (by omega) ?_
  refine Ev.aload_n 0 (am_dt kX3_goOver 2 rfl) rfl rfl ?_
  refine Ev.iload_n 1 (am_dt kX3_goOver 3 rfl) rfl rfl ?_
  refine Ev.callV (ci := 3) (v := mX3_freeBoat) (As := [.int x1]) (st := [.ref (a0 + 1)]) okX3_freeBoat wd_252 wd_253 wd_254 (am_dt kX3_goOver 4 rfl) (by decide) rfl rfl (Nat.le_of_ble_eq_true rfl) (Nat.le_of_ble_eq_true rfl) f1.1 ?_
  refine EvM.mono k (fun r3 h2 k => ?_)
  obtain ⟨v4, rfl, k⟩ := k
  show Ev w _ _ _ 9 _ [.int v4, .ref (a0 + 1)] _ _
  refine Ev.iload_n 1 (am_dt kX3_goOver 5 rfl) rfl rfl ?_
  refine Ev.aload_n 0 (am_dt kX3_goOver 6 rfl) rfl rfl ?_
  obtain ⟨f5, k⟩ := k
  obtain ⟨f6, k⟩ := k
  refine Ev.getR (ci := 3) (k := 12) (am_dt kX3_goOver 7 rfl) (by decide) (by decide) rfl wd_191 f5.1 f6 ?_
  obtain ⟨f7, k⟩ := k
  refine Ev.getI (ci := 6) (k := 7) (am_dt kX3_goOver 8 rfl) (by decide) (by decide) rfl wd_269 f7.1 ?_
  refine Ev.iadd (am_dt kX3_goOver 9 rfl) ?_
  refine Ev.callSN (v := mX9_set) (As := [.ref (a0 + 1), .int v4, .int (x1 + (hI h2 (hR h2 a0 12) 7))]) (st := []) okX9_set wd_16 wd_201 (am_dt kX3_goOver 10 rfl) rfl rfl (Nat.le_of_ble_eq_true rfl) (Nat.le_of_ble_eq_true rfl) ?_
  refine EvM.mono k (fun r9 h8 k => ?_)
  obtain ⟨rfl, k⟩ := k
  show Ev w _ _ _ 21 _ [] _ _
  refine Ev.aload_n 0 (am_dt kX3_goOver 11 rfl) rfl rfl ?_
  obtain ⟨f10, k⟩ := k
  refine Ev.getRe (ci := 3) (k := 4) (r := a0 + 10) (am_dt kX3_goOver 12 rfl) (by decide) (by decide) rfl wd_188 f10.1 (am_L.r f10 7 rfl) (by omega) ?_
  refine Ev.aload_n 0 (am_dt kX3_goOver 13 rfl) rfl rfl ?_
  refine Ev.getI (ci := 3) (k := 10) (am_dt kX3_goOver 14 rfl) (by decide) (by decide) rfl wd_205 f10.1 ?_
  refine Ev.iload_n 1 (am_dt kX3_goOver 15 rfl) rfl rfl ?_
  refine Ev.callSN (v := mX9_set) (As := [.ref (a0 + 10), .int (hI h8 a0 10), .int x1]) (st := []) okX9_set wd_16 wd_201 (am_dt kX3_goOver 16 rfl) rfl rfl (Nat.le_of_ble_eq_true rfl) (Nat.le_of_ble_eq_true rfl) ?_
  refine EvM.mono k (fun r12 h11 k => ?_)
  obtain ⟨rfl, k⟩ := k
  show Ev w _ _ _ 33 _ [] _ _
  refine Ev.aload_n 0 (am_dt kX3_goOver 17 rfl) rfl rfl ?_
  obtain ⟨f13, k⟩ := k
  refine Ev.getRe (ci := 3) (k := 5) (r := a0 + 11) (am_dt kX3_goOver 18 rfl) (by decide) (by decide) rfl wd_189 f13.1 (am_L.r f13 8 rfl) (by omega) ?_
  refine Ev.aload_n 0 (am_dt kX3_goOver 19 rfl) rfl rfl ?_
  refine Ev.getI (ci := 3) (k := 10) (am_dt kX3_goOver 20 rfl) (by decide) (by decide) rfl wd_205 f13.1 ?_
  refine Ev.aload_n 0 (am_dt kX3_goOver 21 rfl) rfl rfl ?_
  refine Ev.aload_n 0 (am_dt kX3_goOver 22 rfl) rfl rfl ?_
  refine Ev.getRe (ci := 3) (k := 0) (r := a0 + 4) (am_dt kX3_goOver 23 rfl) (by decide) (by decide) rfl wd_184 f13.1 (am_L.r f13 3 rfl) (by omega) ?_
  refine Ev.iload_n 1 (am_dt kX3_goOver 24 rfl) rfl rfl ?_
  refine Ev.callV (ci := 3) (v := mX3_board) (As := [.ref (a0 + 4), .int x1]) (st := [.int (hI h11 a0 10), .ref (a0 + 11)]) okX3_board wd_270 wd_271 wd_272 (am_dt kX3_goOver 25 rfl) (by decide) rfl rfl (Nat.le_of_ble_eq_true rfl) (Nat.le_of_ble_eq_true rfl) f13.1 ?_
  refine EvM.mono k (fun r15 h14 k => ?_)
  obtain ⟨v16, rfl, k⟩ := k
  show Ev w _ _ _ 50 _ [.int v16, .int (hI h11 a0 10), .ref (a0 + 11)] _ _
  refine Ev.callSN (v := mX9_set) (As := [.ref (a0 + 11), .int (hI h11 a0 10), .int v16]) (st := []) okX9_set wd_16 wd_201 (am_dt kX3_goOver 26 rfl) rfl rfl (Nat.le_of_ble_eq_true rfl) (Nat.le_of_ble_eq_true rfl) ?_
  refine EvM.mono k (fun r18 h17 k => ?_)
  obtain ⟨rfl, k⟩ := k
  show Ev w _ _ _ 53 _ [] _ _
  refine Ev.aload_n 0 (am_dt kX3_goOver 27 rfl) rfl rfl ?_
  obtain ⟨f19, k⟩ := k
  refine Ev.getRe (ci := 3) (k := 6) (r := a0 + 12) (am_dt kX3_goOver 28 rfl) (by decide) (by decide) rfl wd_190 f19.1 (am_L.r f19 9 rfl) (by omega) ?_
  refine Ev.aload_n 0 (am_dt kX3_goOver 29 rfl) rfl rfl ?_
  refine Ev.getI (ci := 3) (k := 10) (am_dt kX3_goOver 30 rfl) (by decide) (by decide) rfl wd_205 f19.1 ?_
  refine Ev.aload_n 0 (am_dt kX3_goOver 31 rfl) rfl rfl ?_
  refine Ev.aload_n 0 (am_dt kX3_goOver 32 rfl) rfl rfl ?_
  refine Ev.getRe (ci := 3) (k := 1) (r := a0 + 6) (am_dt kX3_goOver 33 rfl) (by decide) (by decide) rfl wd_185 f19.1 (am_L.r f19 4 rfl) (by omega) ?_
  refine Ev.iload_n 1 (am_dt kX3_goOver 34 rfl) rfl rfl ?_
  refine Ev.callV (ci := 3) (v := mX3_board) (As := [.ref (a0 + 6), .int x1]) (st := [.int (hI h17 a0 10), .ref (a0 + 12)]) okX3_board wd_270 wd_271 wd_272 (am_dt kX3_goOver 35 rfl) (by decide) rfl rfl (Nat.le_of_ble_eq_true rfl) (Nat.le_of_ble_eq_true rfl) f19.1 ?_
  refine EvM.mono k (fun r21 h20 k => ?_)
  obtain ⟨v22, rfl, k⟩ := k
  show Ev w _ _ _ 70 _ [.int v22, .int (hI h17 a0 10), .ref (a0 + 12)] _ _
  refine Ev.callSN (v := mX9_set) (As := [.ref (a0 + 12), .int (hI h17 a0 10), .int v22]) (st := []) okX9_set wd_16 wd_201 (am_dt kX3_goOver 36 rfl) rfl rfl (Nat.le_of_ble_eq_true rfl) (Nat.le_of_ble_eq_true rfl) ?_
  refine EvM.mono k (fun r24 h23 k => ?_)
  obtain ⟨rfl, k⟩ := k
  show Ev w _ _ _ 73 _ [] _ _
  refine Ev.aload_n 0 (am_dt kX3_goOver 37 rfl) rfl rfl ?_
  refine Ev.dup (am_dt kX3_goOver 38 rfl) rfl ?_
  obtain ⟨f25, k⟩ := k
  refine Ev.getI (ci := 3) (k := 10) (am_dt kX3_goOver 39 rfl) (by decide) (by decide) rfl wd_205 f25.1 ?_
  refine Ev.iconst (v := 1) (am_dt kX3_goOver 40 rfl) (by decide) ?_
  refine Ev.iadd (am_dt kX3_goOver 41 rfl) ?_
  refine Ev.putI' (ci := 3) (k := 10) (am_dt kX3_goOver 42 rfl) (by decide) (by decide) wd_205 rfl rfl rfl rfl f25.1 (fun h26 eh26 => ?_)
  have k := k h26 eh26
  have f25 := am_LsI eh26 f25
  exact Ev.vret (am_dt kX3_goOver 43 rfl) rfl k
set_option maxRecDepth 20000 in
set_option maxHeartbeats 2000000 in
theorem bX3_board_0 {w : am_W} {d : Nat} {h : am_H} {Q : Option Value → am_H → Prop} {a0 : Nat} {a1 : Nat} {x2 : Int32}  (k : (am_L 3 a0 h) ∧ ((hR h a0 12 ≠ 0) ∧ ((am_L 6 (hR h a0 12) h) ∧ ((am_L 0 a1 h) ∧ (Ev w (am_Z w) mX3_board (d + 1) 23 [(0, .ref a0), (1, .ref a1), (2, .int x2), (3, .int (if ((hI h a1 2) - (hI h a1 1)) < (hI h (hR h a0 12) 6) then ((hI h a1 2) - (hI h a1 1)) else (hI h (hR h a0 12) 6))), (4, .int 0)] [] h Q))))) : EvM w mX3_board (d + 1) [.ref a0, .ref a1, .int x2] h Q := by
  show Ev w (am_Z w) mX3_board (d + 1) 0 [(0, .ref a0), (1, .ref a1), (2, .int x2)] [] h Q
  refine Ev.aload_n 0 (am_dt kX3_board 0 rfl) rfl rfl ?_
  obtain ⟨f1, k⟩ := k
  obtain ⟨f2, k⟩ := k
  refine Ev.getR (ci := 3) (k := 12) (am_dt kX3_board 1 rfl) (by decide) (by decide) rfl wd_191 f1.1 f2 ?_
  obtain ⟨f3, k⟩ := k
  refine Ev.getI (ci := 6) (k := 6) (am_dt kX3_board 2 rfl) (by decide) (by decide) rfl wd_273 f3.1 ?_
  refine Ev.aload_n 1 (am_dt kX3_board 3 rfl) rfl rfl ?_
  obtain ⟨f4, k⟩ := k
  refine Ev.getI (ci := 0) (k := 2) (am_dt kX3_board 4 rfl) (by decide) (by decide) rfl wd_266 f4.1 ?_
  refine Ev.aload_n 1 (am_dt kX3_board 5 rfl) rfl rfl ?_
  refine Ev.getI (ci := 0) (k := 1) (am_dt kX3_board 6 rfl) (by decide) (by decide) rfl wd_265 f4.1 ?_
  refine Ev.isub (am_dt kX3_board 7 rfl) ?_
  refine Ev.mmin wd_227 wd_74 wd_6 wd_75 (am_dt kX3_board 8 rfl) (Nat.le_of_ble_eq_true rfl) ?_
  refine Ev.istore_n (lv' := [(3, .int (if ((hI h a1 2) - (hI h a1 1)) < (hI h (hR h a0 12) 6) then ((hI h a1 2) - (hI h a1 1)) else (hI h (hR h a0 12) 6))), (0, .ref a0), (1, .ref a1), (2, .int x2)]) (am_dt kX3_board 9 rfl) rfl (by decide) rfl ?_
  refine Ev.iconst (v := 0) (am_dt kX3_board 10 rfl) (by decide) ?_
  refine Ev.istore (lv' := [(4, .int 0), (3, .int (if ((hI h a1 2) - (hI h a1 1)) < (hI h (hR h a0 12) 6) then ((hI h a1 2) - (hI h a1 1)) else (hI h (hR h a0 12) 6))), (0, .ref a0), (1, .ref a1), (2, .int x2)]) (am_dt kX3_board 11 rfl) (by decide) rfl ?_
  exact Ev.sub [2, 3, 4, 1, 0] rfl k
set_option maxRecDepth 20000 in
set_option maxHeartbeats 2000000 in
theorem bX3_board_23 {w : am_W} {d : Nat} {h : am_H} {Q : Option Value → am_H → Prop} {a0 : Nat} {a1 : Nat} {x2 : Int32} {x3 : Int32} {x4 : Int32}  (k : (x3 ≤ x4 → (Q (some (.int x3)) h)) ∧ (¬ x3 ≤ x4 → ((am_L 0 a1 h) ∧ (EvM w mX9_get d [.ref (a1 + 1), .int (hI h a1 1)] h (fun r3 h2 => ∃ v4 : Int32, r3 = some (.int v4) ∧ ((am_L 3 a0 h2) ∧ (EvM w mX9_set d [.ref (a0 + 8), .int v4, .int x2] h2 (fun r7 h6 => r7 = none ∧ ((am_L 3 a0 h6) ∧ (EvM w mX9_set d [.ref (a0 + 9), .int v4, .int (hI h6 a0 10)] h6 (fun r10 h9 => r10 = none ∧ ((am_L 3 a0 h9) ∧ ((hR h9 a0 13 ≠ 0) ∧ ((am_L 0 a1 h9) ∧ (EvM w mX0_leaveFirst d [.ref a1, .ref (hR h9 a0 13)] h9 (fun r15 h14 => r15 = none ∧ (Ev w (am_Z w) mX3_board (d + 1) 23 [(0, .ref a0), (1, .ref a1), (2, .int x2), (3, .int x3), (4, .int (x4 + 1))] [] h14 Q))))))))))))))))) : Ev w (am_Z w) mX3_board (d + 1) 23 [(0, .ref a0), (1, .ref a1), (2, .int x2), (3, .int x3), (4, .int x4)] [] h Q := by
  refine Ev.iload 4 (am_dt kX3_board 12 rfl) rfl ?_
  refine Ev.iload_n 3 (am_dt kX3_board 13 rfl) rfl rfl ?_
  refine Ev.icmp_ge (tgt := 79) (am_dt kX3_board 14 rfl) (by decide) (fun c => ?_) (fun c => ?_)
  · have k := k.1 c
    refine Ev.iload_n 3 (am_dt kX3_board 38 rfl) rfl rfl ?_
    exact Ev.iret .int (am_dt kX3_board 39 rfl) rfl rfl k
  · have k := k.2 c
    refine Ev.aload_n 1 (am_dt kX3_board 15 rfl) rfl rfl ?_
    obtain ⟨f1, k⟩ := k
    refine Ev.getRe (ci := 0) (k := 0) (r := a1 + 1) (am_dt kX3_board 16 rfl) (by decide) (by decide) rfl wd_267 f1.1 (am_L.r f1 0 rfl) (by omega) ?_
    refine Ev.aload_n 1 (am_dt kX3_board 17 rfl) rfl rfl ?_
    refine Ev.getI (ci := 0) (k := 1) (am_dt kX3_board 18 rfl) (by decide) (by decide) rfl wd_265 f1.1 ?_
    refine Ev.callSN (v := mX9_get) (As := [.ref (a1 + 1), .int (hI h a1 1)]) (st := []) okX9_get wd_19 wd_238 (am_dt kX3_board 19 rfl) rfl rfl (Nat.le_of_ble_eq_true rfl) (Nat.le_of_ble_eq_true rfl) ?_
    refine EvM.mono k (fun r3 h2 k => ?_)
    obtain ⟨v4, rfl, k⟩ := k
    show Ev w _ _ _ 40 _ [.int v4] _ _
    refine Ev.istore (lv' := [(5, .int v4), (0, .ref a0), (1, .ref a1), (2, .int x2), (3, .int x3), (4, .int x4)]) (am_dt kX3_board 20 rfl) (by decide) rfl ?_
    refine Ev.aload_n 1 (am_dt kX3_board 21 rfl) rfl rfl ?_
    obtain ⟨f5, k⟩ := k
    refine Ev.getRe (ci := 3) (k := 2) (r := a0 + 8) (am_dt kX3_board 22 rfl) (by decide) (by decide) rfl wd_186 f5.1 (am_L.r f5 5 rfl) (by omega) ?_
    refine Ev.iload 0 (am_dt kX3_board 23 rfl) rfl ?_
    refine Ev.iload_n 3 (am_dt kX3_board 24 rfl) rfl rfl ?_
    refine Ev.callSN (v := mX9_set) (As := [.ref (a0 + 8), .int v4, .int x2]) (st := []) okX9_set wd_16 wd_201 (am_dt kX3_board 25 rfl) rfl rfl (Nat.le_of_ble_eq_true rfl) (Nat.le_of_ble_eq_true rfl) ?_
    refine EvM.mono k (fun r7 h6 k => ?_)
    obtain ⟨rfl, k⟩ := k
    show Ev w _ _ _ 52 _ [] _ _
    refine Ev.aload_n 1 (am_dt kX3_board 26 rfl) rfl rfl ?_
    obtain ⟨f8, k⟩ := k
    refine Ev.getRe (ci := 3) (k := 3) (r := a0 + 9) (am_dt kX3_board 27 rfl) (by decide) (by decide) rfl wd_187 f8.1 (am_L.r f8 6 rfl) (by omega) ?_
    refine Ev.iload 0 (am_dt kX3_board 28 rfl) rfl ?_
    refine Ev.aload_n 1 (am_dt kX3_board 29 rfl) rfl rfl ?_
    refine Ev.getI (ci := 3) (k := 10) (am_dt kX3_board 30 rfl) (by decide) (by decide) rfl wd_205 f8.1 ?_
    refine Ev.callSN (v := mX9_set) (As := [.ref (a0 + 9), .int v4, .int (hI h6 a0 10)]) (st := []) okX9_set wd_16 wd_201 (am_dt kX3_board 31 rfl) rfl rfl (Nat.le_of_ble_eq_true rfl) (Nat.le_of_ble_eq_true rfl) ?_
    refine EvM.mono k (fun r10 h9 k => ?_)
    obtain ⟨rfl, k⟩ := k
    show Ev w _ _ _ 65 _ [] _ _
    refine Ev.aload_n 2 (am_dt kX3_board 32 rfl) rfl rfl ?_
    refine Ev.aload_n 1 (am_dt kX3_board 33 rfl) rfl rfl ?_
    obtain ⟨f11, k⟩ := k
    obtain ⟨f12, k⟩ := k
    refine Ev.getR (ci := 3) (k := 13) (am_dt kX3_board 34 rfl) (by decide) (by decide) rfl wd_193 f11.1 f12 ?_
    obtain ⟨f13, k⟩ := k
    refine Ev.callV (ci := 0) (v := mX0_leaveFirst) (As := [.ref (hR h9 a0 13)]) (st := []) okX0_leaveFirst wd_21 wd_22 wd_274 (am_dt kX3_board 35 rfl) (by decide) rfl rfl (Nat.le_of_ble_eq_true rfl) (Nat.le_of_ble_eq_true rfl) f13.1 ?_
    refine EvM.mono k (fun r15 h14 k => ?_)
    obtain ⟨rfl, k⟩ := k
    show Ev w _ _ _ 73 _ [] _ _
    refine Ev.iinc (v := x4 + 1) (lv' := [(4, .int (x4 + 1)), (5, .int v4), (0, .ref a0), (1, .ref a1), (2, .int x2), (3, .int x3)]) 5 (am_dt kX3_board 36 rfl) rfl rfl (by decide) rfl ?_
    refine Ev.goto (tgt := 23) (am_dt kX3_board 37 rfl) (by decide) ?_
    exact Ev.sub [2, 3, 4, 5, 0] rfl k
set_option maxRecDepth 20000 in
set_option maxHeartbeats 2000000 in
theorem bX3_misjudged_0 {w : am_W} {d : Nat} {h : am_H} {Q : Option Value → am_H → Prop} {a0 : Nat} {a1 : Nat} {x2 : Int32}  (k : Ev w (am_Z w) mX3_misjudged (d + 1) 5 [(0, .ref a0), (1, .ref a1), (2, .int x2), (3, .int 0), (5, .int 0)] [] h Q) : EvM w mX3_misjudged (d + 1) [.ref a0, .ref a1, .int x2] h Q := by
  show Ev w (am_Z w) mX3_misjudged (d + 1) 0 [(0, .ref a0), (1, .ref a1), (2, .int x2)] [] h Q
  refine Ev.iconst (v := 0) (am_dt kX3_misjudged 0 rfl) (by decide) ?_
  refine Ev.istore_n (lv' := [(3, .int 0), (0, .ref a0), (1, .ref a1), (2, .int x2)]) (am_dt kX3_misjudged 1 rfl) rfl (by decide) rfl ?_
  refine Ev.iconst (v := 0) (am_dt kX3_misjudged 2 rfl) (by decide) ?_
  refine Ev.istore (lv' := [(5, .int 0), (3, .int 0), (0, .ref a0), (1, .ref a1), (2, .int x2)]) (am_dt kX3_misjudged 3 rfl) (by decide) rfl ?_
  exact Ev.sub [2, 3, 4, 1, 0] rfl k
set_option maxRecDepth 20000 in
set_option maxHeartbeats 2000000 in
theorem bX3_misjudged_5 {w : am_W} {d : Nat} {h : am_H} {Q : Option Value → am_H → Prop} {a0 : Nat} {a1 : Nat} {x2 : Int32} {x3 : Int32} {x5 : Int32}  (k : (1440 ≤ x5 → (Q (some (.int ((-1)))) h)) ∧ (¬ 1440 ≤ x5 → ((am_L 3 a0 h) ∧ (EvM w mX3_come d [.ref a0, .int x5] h (fun r3 h2 => r3 = none ∧ ((x2 ≤ x3 → (Ev w (am_Z w) mX3_misjudged (d + 1) 39 [(0, .ref a0), (1, .ref a1), (2, .int x2), (3, .int x3), (5, .int x5)] [.int 0] h2 Q)) ∧ (¬ x2 ≤ x3 → (EvM w mX9_get d [.ref a1, .int x3] h2 (fun r5 h4 => ∃ v6 : Int32, r5 = some (.int v6) ∧ ((v6 = x5 → (Ev w (am_Z w) mX3_misjudged (d + 1) 39 [(0, .ref a0), (1, .ref a1), (2, .int x2), (3, .int x3), (5, .int x5)] [.int 1] h4 Q)) ∧ (¬ v6 = x5 → (Ev w (am_Z w) mX3_misjudged (d + 1) 39 [(0, .ref a0), (1, .ref a1), (2, .int x2), (3, .int x3), (5, .int x5)] [.int 0] h4 Q)))))))))))) : Ev w (am_Z w) mX3_misjudged (d + 1) 5 [(0, .ref a0), (1, .ref a1), (2, .int x2), (3, .int x3), (5, .int x5)] [] h Q := by
  refine Ev.iload 4 (am_dt kX3_misjudged 4 rfl) rfl ?_
  refine Ev.sipush (v := 1440) (am_dt kX3_misjudged 5 rfl) (by decide) ?_
  refine Ev.icmp_ge (tgt := 114) (am_dt kX3_misjudged 6 rfl) (by decide) (fun c => ?_) (fun c => ?_)
  · have k := k.1 c
    refine Ev.iconst (v := (-1)) (am_dt kX3_misjudged 59 rfl) (by decide) ?_
    exact Ev.iret .int (am_dt kX3_misjudged 60 rfl) rfl rfl k
  · have k := k.2 c
    refine Ev.aload_n 0 (am_dt kX3_misjudged 7 rfl) rfl rfl ?_
    refine Ev.iload 4 (am_dt kX3_misjudged 8 rfl) rfl ?_
    obtain ⟨f1, k⟩ := k
    refine Ev.callV (ci := 3) (v := mX3_come) (As := [.int x5]) (st := []) okX3_come wd_212 wd_213 wd_214 (am_dt kX3_misjudged 9 rfl) (by decide) rfl rfl (Nat.le_of_ble_eq_true rfl) (Nat.le_of_ble_eq_true rfl) f1.1 ?_
    refine EvM.mono k (fun r3 h2 k => ?_)
    obtain ⟨rfl, k⟩ := k
    show Ev w _ _ _ 19 _ [] _ _
    refine Ev.iload_n 3 (am_dt kX3_misjudged 10 rfl) rfl rfl ?_
    refine Ev.iload_n 2 (am_dt kX3_misjudged 11 rfl) rfl rfl ?_
    refine Ev.icmp_ge (tgt := 38) (am_dt kX3_misjudged 12 rfl) (by decide) (fun c => ?_) (fun c => ?_)
    · have k := k.1 c
      refine Ev.iconst (v := 0) (am_dt kX3_misjudged 20 rfl) (by decide) ?_
      exact k
    · have k := k.2 c
      refine Ev.aload_n 1 (am_dt kX3_misjudged 13 rfl) rfl rfl ?_
      refine Ev.iload_n 3 (am_dt kX3_misjudged 14 rfl) rfl rfl ?_
      refine Ev.callSN (v := mX9_get) (As := [.ref a1, .int x3]) (st := []) okX9_get wd_19 wd_238 (am_dt kX3_misjudged 15 rfl) rfl rfl (Nat.le_of_ble_eq_true rfl) (Nat.le_of_ble_eq_true rfl) ?_
      refine EvM.mono k (fun r5 h4 k => ?_)
      obtain ⟨v6, rfl, k⟩ := k
      show Ev w _ _ _ 29 _ [.int v6] _ _
      refine Ev.iload 4 (am_dt kX3_misjudged 16 rfl) rfl ?_
      refine Ev.icmp_ne (tgt := 38) (am_dt kX3_misjudged 17 rfl) (by decide) (fun c => ?_) (fun c => ?_)
      · have k := k.2 c
        refine Ev.iconst (v := 0) (am_dt kX3_misjudged 20 rfl) (by decide) ?_
        exact k
      · have k := k.1 c
        refine Ev.iconst (v := 1) (am_dt kX3_misjudged 18 rfl) (by decide) ?_
        refine Ev.goto (tgt := 39) (am_dt kX3_misjudged 19 rfl) (by decide) ?_
        exact k
set_option maxRecDepth 20000 in
set_option maxHeartbeats 2000000 in
theorem bX3_misjudged_39 {w : am_W} {d : Nat} {h : am_H} {Q : Option Value → am_H → Prop} {a0 : Nat} {a1 : Nat} {x2 : Int32} {x3 : Int32} {x5 : Int32} {s0 : Int32} (k : (am_L 3 a0 h) ∧ (EvM w mX3_wouldRing d [.ref a0, .int x5] h (fun r3 h2 => ∃ v4 : Int32, r3 = some (.int v4) ∧ ((s0 = v4 → ((am_L 3 a0 h2) ∧ (EvM w mX3_soonest d [.ref a0, .int x5] h2 (fun r7 h6 => ∃ v8 : Int32, r7 = some (.int v8) ∧ ((s0 = 0 → (Ev w (am_Z w) mX3_misjudged (d + 1) 83 [(0, .ref a0), (1, .ref a1), (2, .int x2), (3, .int x3), (4, .int v8), (5, .int x5)] [] h6 Q)) ∧ (¬ s0 = 0 → ((am_L 3 a0 h6) ∧ (EvM w mX3_goOver d [.ref a0, .int x5] h6 (fun r11 h10 => r11 = none ∧ (Ev w (am_Z w) mX3_misjudged (d + 1) 83 [(0, .ref a0), (1, .ref a1), (2, .int x2), (3, .int (x3 + 1)), (4, .int (x5 + 1)), (5, .int x5)] [] h10 Q)))))))))) ∧ (¬ s0 = v4 → (Q (some (.int x5)) h2)))))) : Ev w (am_Z w) mX3_misjudged (d + 1) 39 [(0, .ref a0), (1, .ref a1), (2, .int x2), (3, .int x3), (5, .int x5)] [.int s0] h Q := by
  refine Ev.istore (lv' := [(6, .int s0), (0, .ref a0), (1, .ref a1), (2, .int x2), (3, .int x3), (5, .int x5)]) (am_dt kX3_misjudged 21 rfl) (by decide) rfl ?_
  refine Ev.iload 0 (am_dt kX3_misjudged 22 rfl) rfl ?_
  refine Ev.aload_n 1 (am_dt kX3_misjudged 23 rfl) rfl rfl ?_
  refine Ev.iload 5 (am_dt kX3_misjudged 24 rfl) rfl ?_
  obtain ⟨f1, k⟩ := k
  refine Ev.callV (ci := 3) (v := mX3_wouldRing) (As := [.int x5]) (st := [.int s0]) okX3_wouldRing wd_218 wd_219 wd_220 (am_dt kX3_misjudged 25 rfl) (by decide) rfl rfl (Nat.le_of_ble_eq_true rfl) (Nat.le_of_ble_eq_true rfl) f1.1 ?_
  refine EvM.mono k (fun r3 h2 k => ?_)
  obtain ⟨v4, rfl, k⟩ := k
  show Ev w _ _ _ 49 _ [.int v4, .int s0] _ _
  refine Ev.icmp_eq (tgt := 55) (am_dt kX3_misjudged 26 rfl) (by decide) (fun c => ?_) (fun c => ?_)
  · have k := k.1 c
    refine Ev.aload_n 1 (am_dt kX3_misjudged 29 rfl) rfl rfl ?_
    refine Ev.iload 5 (am_dt kX3_misjudged 30 rfl) rfl ?_
    obtain ⟨f5, k⟩ := k
    refine Ev.callV (ci := 3) (v := mX3_soonest) (As := [.int x5]) (st := []) okX3_soonest wd_215 wd_216 wd_217 (am_dt kX3_misjudged 31 rfl) (by decide) rfl rfl (Nat.le_of_ble_eq_true rfl) (Nat.le_of_ble_eq_true rfl) f5.1 ?_
    refine EvM.mono k (fun r7 h6 k => ?_)
    obtain ⟨v8, rfl, k⟩ := k
    show Ev w _ _ _ 61 _ [.int v8] _ _
    refine Ev.istore (lv' := [(4, .int v8), (6, .int s0), (0, .ref a0), (1, .ref a1), (2, .int x2), (3, .int x3), (5, .int x5)]) (am_dt kX3_misjudged 32 rfl) (by decide) rfl ?_
    refine Ev.iload 1 (am_dt kX3_misjudged 33 rfl) rfl ?_
    refine Ev.if_eq (tgt := 83) (am_dt kX3_misjudged 34 rfl) (by decide) (fun c => ?_) (fun c => ?_)
    · have k := k.1 c
      exact Ev.sub [2, 3, 4, 5, 0, 6] rfl k
    · have k := k.2 c
      refine Ev.aload_n 2 (am_dt kX3_misjudged 35 rfl) rfl rfl ?_
      refine Ev.iload 6 (am_dt kX3_misjudged 36 rfl) rfl ?_
      obtain ⟨f9, k⟩ := k
      refine Ev.callV (ci := 3) (v := mX3_goOver) (As := [.int x5]) (st := []) okX3_goOver wd_221 wd_222 wd_223 (am_dt kX3_misjudged 37 rfl) (by decide) rfl rfl (Nat.le_of_ble_eq_true rfl) (Nat.le_of_ble_eq_true rfl) f9.1 ?_
      refine EvM.mono k (fun r11 h10 k => ?_)
      obtain ⟨rfl, k⟩ := k
      show Ev w _ _ _ 74 _ [] _ _
      refine Ev.iinc (v := x3 + 1) (lv' := [(3, .int (x3 + 1)), (4, .int v8), (6, .int s0), (0, .ref a0), (1, .ref a1), (2, .int x2), (5, .int x5)]) 5 (am_dt kX3_misjudged 38 rfl) rfl rfl (by decide) rfl ?_
      refine Ev.iload 6 (am_dt kX3_misjudged 39 rfl) rfl ?_
      refine Ev.iconst (v := 1) (am_dt kX3_misjudged 40 rfl) (by decide) ?_
      refine Ev.iadd (am_dt kX3_misjudged 41 rfl) ?_
      refine Ev.istore (lv' := [(4, .int (x5 + 1)), (3, .int (x3 + 1)), (6, .int s0), (0, .ref a0), (1, .ref a1), (2, .int x2), (5, .int x5)]) (am_dt kX3_misjudged 42 rfl) (by decide) rfl ?_
      exact Ev.sub [3, 4, 5, 1, 0, 6] rfl k
  · have k := k.2 c
    refine Ev.iload 5 (am_dt kX3_misjudged 27 rfl) rfl ?_
    exact Ev.iret .int (am_dt kX3_misjudged 28 rfl) rfl rfl k
set_option maxRecDepth 20000 in
set_option maxHeartbeats 2000000 in
theorem bX3_misjudged_83 {w : am_W} {d : Nat} {h : am_H} {Q : Option Value → am_H → Prop} {a0 : Nat} {a1 : Nat} {x2 : Int32} {x3 : Int32} {x4 : Int32} {x5 : Int32}  (k : (x2 ≤ x3 → (Ev w (am_Z w) mX3_misjudged (d + 1) 5 [(0, .ref a0), (1, .ref a1), (2, .int x2), (3, .int x3), (5, .int (if (x5 + 1) < x4 then x4 else (x5 + 1)))] [] h Q)) ∧ (¬ x2 ≤ x3 → (EvM w mX9_get d [.ref a1, .int x3] h (fun r2 h1 => ∃ v3 : Int32, r2 = some (.int v3) ∧ (Ev w (am_Z w) mX3_misjudged (d + 1) 5 [(0, .ref a0), (1, .ref a1), (2, .int x2), (3, .int x3), (5, .int (if (x5 + 1) < (if v3 < x4 then v3 else x4) then (if v3 < x4 then v3 else x4) else (x5 + 1)))] [] h1 Q))))) : Ev w (am_Z w) mX3_misjudged (d + 1) 83 [(0, .ref a0), (1, .ref a1), (2, .int x2), (3, .int x3), (4, .int x4), (5, .int x5)] [] h Q := by
  refine Ev.iload_n 3 (am_dt kX3_misjudged 43 rfl) rfl rfl ?_
  refine Ev.iload_n 2 (am_dt kX3_misjudged 44 rfl) rfl rfl ?_
  refine Ev.icmp_ge (tgt := 100) (am_dt kX3_misjudged 45 rfl) (by decide) (fun c => ?_) (fun c => ?_)
  · have k := k.1 c
    refine Ev.iload 5 (am_dt kX3_misjudged 52 rfl) rfl ?_
    refine Ev.iconst (v := 1) (am_dt kX3_misjudged 53 rfl) (by decide) ?_
    refine Ev.iadd (am_dt kX3_misjudged 54 rfl) ?_
    refine Ev.iload 4 (am_dt kX3_misjudged 55 rfl) rfl ?_
    refine Ev.mmax wd_181 wd_5 wd_6 wd_7 (am_dt kX3_misjudged 56 rfl) (Nat.le_of_ble_eq_true rfl) ?_
    refine Ev.istore (lv' := [(5, .int (if (x5 + 1) < x4 then x4 else (x5 + 1))), (0, .ref a0), (1, .ref a1), (2, .int x2), (3, .int x3), (4, .int x4)]) (am_dt kX3_misjudged 57 rfl) (by decide) rfl ?_
    refine Ev.goto (tgt := 5) (am_dt kX3_misjudged 58 rfl) (by decide) ?_
    exact Ev.sub [1, 2, 3, 4, 0] rfl k
  · have k := k.2 c
    refine Ev.iload 4 (am_dt kX3_misjudged 46 rfl) rfl ?_
    refine Ev.aload_n 1 (am_dt kX3_misjudged 47 rfl) rfl rfl ?_
    refine Ev.iload_n 3 (am_dt kX3_misjudged 48 rfl) rfl rfl ?_
    refine Ev.callSN (v := mX9_get) (As := [.ref a1, .int x3]) (st := [.int x4]) okX9_get wd_19 wd_238 (am_dt kX3_misjudged 49 rfl) rfl rfl (Nat.le_of_ble_eq_true rfl) (Nat.le_of_ble_eq_true rfl) ?_
    refine EvM.mono k (fun r2 h1 k => ?_)
    obtain ⟨v3, rfl, k⟩ := k
    show Ev w _ _ _ 95 _ [.int v3, .int x4] _ _
    refine Ev.mmin wd_227 wd_74 wd_6 wd_75 (am_dt kX3_misjudged 50 rfl) (Nat.le_of_ble_eq_true rfl) ?_
    refine Ev.istore (lv' := [(4, .int (if v3 < x4 then v3 else x4)), (0, .ref a0), (1, .ref a1), (2, .int x2), (3, .int x3), (5, .int x5)]) (am_dt kX3_misjudged 51 rfl) (by decide) rfl ?_
    refine Ev.iload 5 (am_dt kX3_misjudged 52 rfl) rfl ?_
    refine Ev.iconst (v := 1) (am_dt kX3_misjudged 53 rfl) (by decide) ?_
    refine Ev.iadd (am_dt kX3_misjudged 54 rfl) ?_
    refine Ev.iload 0 (am_dt kX3_misjudged 55 rfl) rfl ?_
    refine Ev.mmax wd_181 wd_5 wd_6 wd_7 (am_dt kX3_misjudged 56 rfl) (Nat.le_of_ble_eq_true rfl) ?_
    refine Ev.istore (lv' := [(5, .int (if (x5 + 1) < (if v3 < x4 then v3 else x4) then (if v3 < x4 then v3 else x4) else (x5 + 1))), (4, .int (if v3 < x4 then v3 else x4)), (0, .ref a0), (1, .ref a1), (2, .int x2), (3, .int x3)]) (am_dt kX3_misjudged 57 rfl) (by decide) rfl ?_
    refine Ev.goto (tgt := 5) (am_dt kX3_misjudged 58 rfl) (by decide) ?_
    exact Ev.sub [2, 3, 4, 5, 0] rfl k
set_option maxRecDepth 20000 in
set_option maxHeartbeats 2000000 in
theorem bX3_isWaitingBehind_0 {w : am_W} {d : Nat} {h : am_H} {Q : Option Value → am_H → Prop} {a0 : Nat} {x1 : Int32} {x2 : Int32}  (k : (am_L 3 a0 h) ∧ ((hR h a0 13 ≠ 0) ∧ ((am_L 2 (hR h a0 13) h) ∧ (EvM w mX9_get d [.ref ((hR h a0 13) + 1), .int x1] h (fun r5 h4 => ∃ v6 : Int32, r5 = some (.int v6) ∧ ((x2 < v6 → (Q (some (.int 0)) h4)) ∧ (¬ x2 < v6 → ((am_L 3 a0 h4) ∧ (EvM w mX9_get d [.ref (a0 + 8), .int x1] h4 (fun r9 h8 => ∃ v10 : Int32, r9 = some (.int v10) ∧ ((v10 ≤ x2 → (Q (some (.int 0)) h8)) ∧ (¬ v10 ≤ x2 → (Q (some (.int 1)) h8))))))))))))) : EvM w mX3_isWaitingBehind (d + 1) [.ref a0, .int x1, .int x2] h Q := by
  show Ev w (am_Z w) mX3_isWaitingBehind (d + 1) 0 [(0, .ref a0), (1, .int x1), (2, .int x2)] [] h Q
  refine Ev.aload_n 0 (am_dt kX3_isWaitingBehind 0 rfl) rfl rfl ?_
  obtain ⟨f1, k⟩ := k
  obtain ⟨f2, k⟩ := k
  refine Ev.getR (ci := 3) (k := 13) (am_dt kX3_isWaitingBehind 1 rfl) (by decide) (by decide) rfl wd_193 f1.1 f2 ?_
  obtain ⟨f3, k⟩ := k
  refine Ev.getRe (ci := 2) (k := 0) (r := (hR h a0 13) + 1) (am_dt kX3_isWaitingBehind 2 rfl) (by decide) (by decide) rfl wd_268 f3.1 (am_L.r f3 0 rfl) (by omega) ?_
  refine Ev.iload_n 1 (am_dt kX3_isWaitingBehind 3 rfl) rfl rfl ?_
  refine Ev.callSN (v := mX9_get) (As := [.ref ((hR h a0 13) + 1), .int x1]) (st := []) okX9_get wd_19 wd_238 (am_dt kX3_isWaitingBehind 4 rfl) rfl rfl (Nat.le_of_ble_eq_true rfl) (Nat.le_of_ble_eq_true rfl) ?_
  refine EvM.mono k (fun r5 h4 k => ?_)
  obtain ⟨v6, rfl, k⟩ := k
  show Ev w _ _ _ 11 _ [.int v6] _ _
  refine Ev.iload_n 2 (am_dt kX3_isWaitingBehind 5 rfl) rfl rfl ?_
  refine Ev.icmp_gt (tgt := 31) (am_dt kX3_isWaitingBehind 6 rfl) (by decide) (fun c => ?_) (fun c => ?_)
  · have k := k.1 c
    refine Ev.iconst (v := 0) (am_dt kX3_isWaitingBehind 15 rfl) (by decide) ?_
    exact Ev.iret .boolean (am_dt kX3_isWaitingBehind 16 rfl) rfl rfl k
  · have k := k.2 c
    refine Ev.aload_n 0 (am_dt kX3_isWaitingBehind 7 rfl) rfl rfl ?_
    obtain ⟨f7, k⟩ := k
    refine Ev.getRe (ci := 3) (k := 2) (r := a0 + 8) (am_dt kX3_isWaitingBehind 8 rfl) (by decide) (by decide) rfl wd_186 f7.1 (am_L.r f7 5 rfl) (by omega) ?_
    refine Ev.iload_n 1 (am_dt kX3_isWaitingBehind 9 rfl) rfl rfl ?_
    refine Ev.callSN (v := mX9_get) (As := [.ref (a0 + 8), .int x1]) (st := []) okX9_get wd_19 wd_238 (am_dt kX3_isWaitingBehind 10 rfl) rfl rfl (Nat.le_of_ble_eq_true rfl) (Nat.le_of_ble_eq_true rfl) ?_
    refine EvM.mono k (fun r9 h8 k => ?_)
    obtain ⟨v10, rfl, k⟩ := k
    show Ev w _ _ _ 23 _ [.int v10] _ _
    refine Ev.iload_n 2 (am_dt kX3_isWaitingBehind 11 rfl) rfl rfl ?_
    refine Ev.icmp_le (tgt := 31) (am_dt kX3_isWaitingBehind 12 rfl) (by decide) (fun c => ?_) (fun c => ?_)
    · have k := k.1 c
      refine Ev.iconst (v := 0) (am_dt kX3_isWaitingBehind 15 rfl) (by decide) ?_
      exact Ev.iret .boolean (am_dt kX3_isWaitingBehind 16 rfl) rfl rfl k
    · have k := k.2 c
      refine Ev.iconst (v := 1) (am_dt kX3_isWaitingBehind 13 rfl) (by decide) ?_
      refine Ev.goto (tgt := 32) (am_dt kX3_isWaitingBehind 14 rfl) (by decide) ?_
      exact Ev.iret .boolean (am_dt kX3_isWaitingBehind 16 rfl) rfl rfl k
set_option maxRecDepth 20000 in
set_option maxHeartbeats 2000000 in
theorem bX3_waitOf_0 {w : am_W} {d : Nat} {h : am_H} {Q : Option Value → am_H → Prop} {a0 : Nat} {x1 : Int32}  (k : (am_L 3 a0 h) ∧ (EvM w mX9_get d [.ref (a0 + 8), .int x1] h (fun r3 h2 => ∃ v4 : Int32, r3 = some (.int v4) ∧ ((am_L 3 a0 h2) ∧ ((hR h2 a0 13 ≠ 0) ∧ ((am_L 2 (hR h2 a0 13) h2) ∧ (EvM w mX9_get d [.ref ((hR h2 a0 13) + 1), .int x1] h2 (fun r9 h8 => ∃ v10 : Int32, r9 = some (.int v10) ∧ (Q (some (.int (v4 - v10))) h8))))))))) : EvM w mX3_waitOf (d + 1) [.ref a0, .int x1] h Q := by
  show Ev w (am_Z w) mX3_waitOf (d + 1) 0 [(0, .ref a0), (1, .int x1)] [] h Q
  refine Ev.aload_n 0 (am_dt kX3_waitOf 0 rfl) rfl rfl ?_
  obtain ⟨f1, k⟩ := k
  refine Ev.getRe (ci := 3) (k := 2) (r := a0 + 8) (am_dt kX3_waitOf 1 rfl) (by decide) (by decide) rfl wd_186 f1.1 (am_L.r f1 5 rfl) (by omega) ?_
  refine Ev.iload_n 1 (am_dt kX3_waitOf 2 rfl) rfl rfl ?_
  refine Ev.callSN (v := mX9_get) (As := [.ref (a0 + 8), .int x1]) (st := []) okX9_get wd_19 wd_238 (am_dt kX3_waitOf 3 rfl) rfl rfl (Nat.le_of_ble_eq_true rfl) (Nat.le_of_ble_eq_true rfl) ?_
  refine EvM.mono k (fun r3 h2 k => ?_)
  obtain ⟨v4, rfl, k⟩ := k
  show Ev w _ _ _ 8 _ [.int v4] _ _
  refine Ev.aload_n 0 (am_dt kX3_waitOf 4 rfl) rfl rfl ?_
  obtain ⟨f5, k⟩ := k
  obtain ⟨f6, k⟩ := k
  refine Ev.getR (ci := 3) (k := 13) (am_dt kX3_waitOf 5 rfl) (by decide) (by decide) rfl wd_193 f5.1 f6 ?_
  obtain ⟨f7, k⟩ := k
  refine Ev.getRe (ci := 2) (k := 0) (r := (hR h2 a0 13) + 1) (am_dt kX3_waitOf 6 rfl) (by decide) (by decide) rfl wd_268 f7.1 (am_L.r f7 0 rfl) (by omega) ?_
  refine Ev.iload_n 1 (am_dt kX3_waitOf 7 rfl) rfl rfl ?_
  refine Ev.callSN (v := mX9_get) (As := [.ref ((hR h2 a0 13) + 1), .int x1]) (st := [.int v4]) okX9_get wd_19 wd_238 (am_dt kX3_waitOf 8 rfl) rfl rfl (Nat.le_of_ble_eq_true rfl) (Nat.le_of_ble_eq_true rfl) ?_
  refine EvM.mono k (fun r9 h8 k => ?_)
  obtain ⟨v10, rfl, k⟩ := k
  show Ev w _ _ _ 19 _ [.int v10, .int v4] _ _
  refine Ev.isub (am_dt kX3_waitOf 9 rfl) ?_
  exact Ev.iret .int (am_dt kX3_waitOf 10 rfl) rfl rfl k
set_option maxRecDepth 20000 in
set_option maxHeartbeats 2000000 in
theorem bX3_longestWait_0 {w : am_W} {d : Nat} {h : am_H} {Q : Option Value → am_H → Prop} {a0 : Nat}  (k : Ev w (am_Z w) mX3_longestWait (d + 1) 4 [(0, .ref a0), (1, .int 0), (2, .int 0)] [] h Q) : EvM w mX3_longestWait (d + 1) [.ref a0] h Q := by
  show Ev w (am_Z w) mX3_longestWait (d + 1) 0 [(0, .ref a0)] [] h Q
  refine Ev.iconst (v := 0) (am_dt kX3_longestWait 0 rfl) (by decide) ?_
  refine Ev.istore_n (lv' := [(1, .int 0), (0, .ref a0)]) (am_dt kX3_longestWait 1 rfl) rfl (by decide) rfl ?_
  refine Ev.iconst (v := 0) (am_dt kX3_longestWait 2 rfl) (by decide) ?_
  refine Ev.istore_n (lv' := [(2, .int 0), (1, .int 0), (0, .ref a0)]) (am_dt kX3_longestWait 3 rfl) rfl (by decide) rfl ?_
  exact Ev.sub [2, 1, 0] rfl k
set_option maxRecDepth 20000 in
set_option maxHeartbeats 2000000 in
theorem bX3_longestWait_4 {w : am_W} {d : Nat} {h : am_H} {Q : Option Value → am_H → Prop} {a0 : Nat} {x1 : Int32} {x2 : Int32}  (k : (am_L 3 a0 h) ∧ ((hR h a0 13 ≠ 0) ∧ ((am_L 2 (hR h a0 13) h) ∧ (((hI h (hR h a0 13) 5) ≤ x2 → (Q (some (.int x1)) h)) ∧ (¬ (hI h (hR h a0 13) 5) ≤ x2 → (EvM w mX3_waitOf d [.ref a0, .int x2] h (fun r5 h4 => ∃ v6 : Int32, r5 = some (.int v6) ∧ (Ev w (am_Z w) mX3_longestWait (d + 1) 4 [(0, .ref a0), (1, .int (if x1 < v6 then v6 else x1)), (2, .int (x2 + 1))] [] h4 Q)))))))) : Ev w (am_Z w) mX3_longestWait (d + 1) 4 [(0, .ref a0), (1, .int x1), (2, .int x2)] [] h Q := by
  refine Ev.iload_n 2 (am_dt kX3_longestWait 4 rfl) rfl rfl ?_
  refine Ev.aload_n 0 (am_dt kX3_longestWait 5 rfl) rfl rfl ?_
  obtain ⟨f1, k⟩ := k
  obtain ⟨f2, k⟩ := k
  refine Ev.getR (ci := 3) (k := 13) (am_dt kX3_longestWait 6 rfl) (by decide) (by decide) rfl wd_193 f1.1 f2 ?_
  obtain ⟨f3, k⟩ := k
  refine Ev.getI (ci := 2) (k := 5) (am_dt kX3_longestWait 7 rfl) (by decide) (by decide) rfl wd_200 f3.1 ?_
  refine Ev.icmp_ge (tgt := 31) (am_dt kX3_longestWait 8 rfl) (by decide) (fun c => ?_) (fun c => ?_)
  · have k := k.1 c
    refine Ev.iload_n 1 (am_dt kX3_longestWait 17 rfl) rfl rfl ?_
    exact Ev.iret .int (am_dt kX3_longestWait 18 rfl) rfl rfl k
  · have k := k.2 c
    refine Ev.iload_n 1 (am_dt kX3_longestWait 9 rfl) rfl rfl ?_
    refine Ev.aload_n 0 (am_dt kX3_longestWait 10 rfl) rfl rfl ?_
    refine Ev.iload_n 2 (am_dt kX3_longestWait 11 rfl) rfl rfl ?_
    refine Ev.callV (ci := 3) (v := mX3_waitOf) (As := [.int x2]) (st := [.int x1]) okX3_waitOf wd_275 wd_276 wd_277 (am_dt kX3_longestWait 12 rfl) (by decide) rfl rfl (Nat.le_of_ble_eq_true rfl) (Nat.le_of_ble_eq_true rfl) f1.1 ?_
    refine EvM.mono k (fun r5 h4 k => ?_)
    obtain ⟨v6, rfl, k⟩ := k
    show Ev w _ _ _ 21 _ [.int v6, .int x1] _ _
    refine Ev.mmax wd_181 wd_5 wd_6 wd_7 (am_dt kX3_longestWait 13 rfl) (Nat.le_of_ble_eq_true rfl) ?_
    refine Ev.istore_n (lv' := [(1, .int (if x1 < v6 then v6 else x1)), (0, .ref a0), (2, .int x2)]) (am_dt kX3_longestWait 14 rfl) rfl (by decide) rfl ?_
    refine Ev.iinc (v := x2 + 1) (lv' := [(2, .int (x2 + 1)), (1, .int (if x1 < v6 then v6 else x1)), (0, .ref a0)]) 2 (am_dt kX3_longestWait 15 rfl) rfl rfl (by decide) rfl ?_
    refine Ev.goto (tgt := 4) (am_dt kX3_longestWait 16 rfl) (by decide) ?_
    exact Ev.sub [2, 1, 0] rfl k
