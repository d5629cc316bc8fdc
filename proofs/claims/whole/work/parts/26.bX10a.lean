set_option maxRecDepth 20000 in
set_option maxHeartbeats 2000000 in
theorem bX10_init_0 {w : am_W} {d : Nat} {h : am_H} {Q : Option Value → am_H → Prop} {a0 : Nat}  (k : ∀ h1 : am_H, h1 = nA h 12 1000 → ((hK h1 a0 = 10) ∧ ((hZ h ≠ 0) ∧ (∀ h4 : am_H, h4 = sR h1 a0 2 (hZ h) → (∀ h5 : am_H, h5 = nA h4 12 60 → ((hK h5 a0 = 10) ∧ ((hZ h4 ≠ 0) ∧ (∀ h8 : am_H, h8 = sR h5 a0 10 (hZ h4) → (∀ h9 : am_H, h9 = nA h8 12 24 → ((hK h9 a0 = 10) ∧ ((hZ h8 ≠ 0) ∧ (∀ h12 : am_H, h12 = sR h9 a0 11 (hZ h8) → (∀ h13 : am_H, h13 = nA h12 12 24 → ((hK h13 a0 = 10) ∧ ((hZ h12 ≠ 0) ∧ (∀ h16 : am_H, h16 = sR h13 a0 12 (hZ h12) → (∀ h17 : am_H, h17 = nA h16 12 6000 → ((hK h17 a0 = 10) ∧ ((hZ h16 ≠ 0) ∧ (∀ h20 : am_H, h20 = sR h17 a0 13 (hZ h16) → (∀ h21 : am_H, h21 = nA h20 13 16 → ((hK h21 a0 = 10) ∧ ((hZ h20 ≠ 0) ∧ (∀ h24 : am_H, h24 = sR h21 a0 14 (hZ h20) → (∀ h25 : am_H, h25 = nA h24 12 96 → ((hK h25 a0 = 10) ∧ ((hZ h24 ≠ 0) ∧ (∀ h28 : am_H, h28 = sR h25 a0 15 (hZ h24) → (∀ h29 : am_H, h29 = nA h28 12 96 → ((hK h29 a0 = 10) ∧ ((hZ h28 ≠ 0) ∧ (∀ h32 : am_H, h32 = sR h29 a0 16 (hZ h28) → (∀ h33 : am_H, h33 = nA h32 12 96 → ((hK h33 a0 = 10) ∧ ((hZ h32 ≠ 0) ∧ (∀ h36 : am_H, h36 = sR h33 a0 17 (hZ h32) → (∀ h37 : am_H, h37 = nA h36 12 96 → ((hK h37 a0 = 10) ∧ ((hZ h36 ≠ 0) ∧ (∀ h40 : am_H, h40 = sR h37 a0 18 (hZ h36) → (∀ h41 : am_H, h41 = nA h40 12 96 → ((hK h41 a0 = 10) ∧ ((hZ h40 ≠ 0) ∧ (∀ h44 : am_H, h44 = sR h41 a0 19 (hZ h40) → (∀ h45 : am_H, h45 = nA h44 12 180 → ((hK h45 a0 = 10) ∧ ((hZ h44 ≠ 0) ∧ (∀ h48 : am_H, h48 = sR h45 a0 20 (hZ h44) → (∀ h49 : am_H, h49 = nA h48 12 7 → ((hK h49 a0 = 10) ∧ ((hZ h48 ≠ 0) ∧ (∀ h52 : am_H, h52 = sR h49 a0 23 (hZ h48) → (∀ h53 : am_H, h53 = nA h52 14 7 → ((hK h53 a0 = 10) ∧ ((hZ h52 ≠ 0) ∧ (∀ h56 : am_H, h56 = sR h53 a0 24 (hZ h52) → (∀ h57 : am_H, h57 = nA h56 12 7 → ((hK h57 a0 = 10) ∧ ((hZ h56 ≠ 0) ∧ (∀ h60 : am_H, h60 = sR h57 a0 25 (hZ h56) → (∀ h61 : am_H, h61 = nA h60 12 7 → ((hK h61 a0 = 10) ∧ ((hZ h60 ≠ 0) ∧ (∀ h64 : am_H, h64 = sR h61 a0 26 (hZ h60) → (∀ h65 : am_H, h65 = nA h64 12 7 → ((hK h65 a0 = 10) ∧ ((hZ h64 ≠ 0) ∧ (∀ h68 : am_H, h68 = sR h65 a0 27 (hZ h64) → (∀ h69 : am_H, h69 = nA h68 12 7 → ((hK h69 a0 = 10) ∧ ((hZ h68 ≠ 0) ∧ (∀ h72 : am_H, h72 = sR h69 a0 28 (hZ h68) → (∀ h73 : am_H, h73 = nA h72 12 7 → ((hK h73 a0 = 10) ∧ ((hZ h72 ≠ 0) ∧ (∀ h76 : am_H, h76 = sR h73 a0 29 (hZ h72) → (∀ h77 : am_H, h77 = nA h76 12 7 → ((hK h77 a0 = 10) ∧ ((hZ h76 ≠ 0) ∧ (∀ h80 : am_H, h80 = sR h77 a0 30 (hZ h76) → (∀ h81 : am_H, h81 = nA h80 12 7 → ((hK h81 a0 = 10) ∧ ((hZ h80 ≠ 0) ∧ (∀ h84 : am_H, h84 = sR h81 a0 31 (hZ h80) → (∀ h85 : am_H, h85 = nA h84 12 7 → ((hK h85 a0 = 10) ∧ ((hZ h84 ≠ 0) ∧ (∀ h88 : am_H, h88 = sR h85 a0 32 (hZ h84) → (∀ h89 : am_H, h89 = nA h88 12 7 → ((hK h89 a0 = 10) ∧ ((hZ h88 ≠ 0) ∧ (∀ h92 : am_H, h92 = sR h89 a0 33 (hZ h88) → (∀ h93 : am_H, h93 = nA h92 12 20 → ((hK h93 a0 = 10) ∧ ((hZ h92 ≠ 0) ∧ (∀ h96 : am_H, h96 = sR h93 a0 34 (hZ h92) → (∀ h97 : am_H, h97 = nA h96 12 360 → ((hK h97 a0 = 10) ∧ ((hZ h96 ≠ 0) ∧ (∀ h100 : am_H, h100 = sR h97 a0 37 (hZ h96) → (∀ h101 : am_H, h101 = nA h100 12 360 → ((hK h101 a0 = 10) ∧ ((hZ h100 ≠ 0) ∧ (∀ h104 : am_H, h104 = sR h101 a0 38 (hZ h100) → (∀ h105 : am_H, h105 = nA h104 12 360 → ((hK h105 a0 = 10) ∧ ((hZ h104 ≠ 0) ∧ (∀ h108 : am_H, h108 = sR h105 a0 39 (hZ h104) → (∀ h109 : am_H, h109 = nA h108 12 360 → ((hK h109 a0 = 10) ∧ ((hZ h108 ≠ 0) ∧ (∀ h112 : am_H, h112 = sR h109 a0 40 (hZ h108) → (∀ h113 : am_H, h113 = nA h112 12 360 → ((hK h113 a0 = 10) ∧ ((hZ h112 ≠ 0) ∧ (∀ h116 : am_H, h116 = sR h113 a0 41 (hZ h112) → (∀ h117 : am_H, h117 = nA h116 12 360 → ((hK h117 a0 = 10) ∧ ((hZ h116 ≠ 0) ∧ (∀ h120 : am_H, h120 = sR h117 a0 42 (hZ h116) → (∀ h121 : am_H, h121 = nA h120 12 360 → ((hK h121 a0 = 10) ∧ ((hZ h120 ≠ 0) ∧ (∀ h124 : am_H, h124 = sR h121 a0 43 (hZ h120) → (∀ h125 : am_H, h125 = nA h124 12 360 → ((hK h125 a0 = 10) ∧ ((hZ h124 ≠ 0) ∧ (∀ h128 : am_H, h128 = sR h125 a0 45 (hZ h124) → (∀ h129 : am_H, h129 = nA h128 12 360 → ((hK h129 a0 = 10) ∧ ((hZ h128 ≠ 0) ∧ (∀ h132 : am_H, h132 = sR h129 a0 46 (hZ h128) → (∀ h133 : am_H, h133 = nA h132 12 360 → ((hK h133 a0 = 10) ∧ ((hZ h132 ≠ 0) ∧ (∀ h136 : am_H, h136 = sR h133 a0 47 (hZ h132) → (∀ h137 : am_H, h137 = nA h136 12 256 → ((hK h137 a0 = 10) ∧ ((hZ h136 ≠ 0) ∧ (∀ h140 : am_H, h140 = sR h137 a0 51 (hZ h136) → (∀ h141 : am_H, h141 = nA h140 12 2048 → ((hK h141 a0 = 10) ∧ ((hZ h140 ≠ 0) ∧ (∀ h144 : am_H, h144 = sR h141 a0 52 (hZ h140) → (∀ h145 : am_H, h145 = nA h144 14 4 → ((hK h145 a0 = 10) ∧ ((hZ h144 ≠ 0) ∧ (∀ h148 : am_H, h148 = sR h145 a0 54 (hZ h144) → (EvM w mX10_starts0 d [.ref a0, .int 0] h148 (fun r150 h149 => r150 = none ∧ (Q none h149))))))))))))))))))))))))))))))))))))))))))))))))))))))))))))))))))))))))))))))))))))))))))))))))))))))))))))))))))))))))))))))))))))))))))))))))))))))) : EvM w mX10_init (d + 1) [.ref a0] h Q := by
  show Ev w (am_Z w) mX10_init (d + 1) 0 [(0, .ref a0)] [] h Q
  refine Ev.aload_n 0 (am_dt kX10_init 0 rfl) rfl rfl ?_
  refine Ev.objI wd_541 wd_2 wd_3 (am_dt kX10_init 1 rfl) (Nat.le_of_ble_eq_true rfl) ?_
  refine Ev.aload_n 0 (am_dt kX10_init 2 rfl) rfl rfl ?_
  refine Ev.sipush (v := 1000) (am_dt kX10_init 3 rfl) (by decide) ?_
  refine Ev.newI' (n := 1000) (N := 1000) (am_dt kX10_init 4 rfl) wd_9 (by decide) (by decide) (by decide) (fun h1 eh1 => ?_)
  have k := k h1 eh1
  obtain ⟨f2, k⟩ := k
  obtain ⟨f3, k⟩ := k
  refine Ev.putRF' (ci := 10) (k := 2) (am_dt kX10_init 5 rfl) (by decide) (by decide) wd_542 rfl rfl rfl rfl rfl rfl f3 f2 (fun h4 eh4 => ?_)
  have k := k h4 eh4
  have f2 := kR eh4 f2
  refine Ev.aload_n 0 (am_dt kX10_init 6 rfl) rfl rfl ?_
  refine Ev.bipush (v := 60) (am_dt kX10_init 7 rfl) (by decide) ?_
  refine Ev.newI' (n := 60) (N := 60) (am_dt kX10_init 8 rfl) wd_9 (by decide) (by decide) (by decide) (fun h5 eh5 => ?_)
  have k := k h5 eh5
  obtain ⟨f6, k⟩ := k
  obtain ⟨f7, k⟩ := k
  refine Ev.putRF' (ci := 10) (k := 10) (am_dt kX10_init 9 rfl) (by decide) (by decide) wd_543 rfl rfl rfl rfl rfl rfl f7 f6 (fun h8 eh8 => ?_)
  have k := k h8 eh8
  have f6 := kR eh8 f6
  refine Ev.aload_n 0 (am_dt kX10_init 10 rfl) rfl rfl ?_
  refine Ev.bipush (v := 24) (am_dt kX10_init 11 rfl) (by decide) ?_
  refine Ev.newI' (n := 24) (N := 24) (am_dt kX10_init 12 rfl) wd_9 (by decide) (by decide) (by decide) (fun h9 eh9 => ?_)
  have k := k h9 eh9
  obtain ⟨f10, k⟩ := k
  obtain ⟨f11, k⟩ := k
  refine Ev.putRF' (ci := 10) (k := 11) (am_dt kX10_init 13 rfl) (by decide) (by decide) wd_544 rfl rfl rfl rfl rfl rfl f11 f10 (fun h12 eh12 => ?_)
  have k := k h12 eh12
  have f10 := kR eh12 f10
  refine Ev.aload_n 0 (am_dt kX10_init 14 rfl) rfl rfl ?_
  refine Ev.bipush (v := 24) (am_dt kX10_init 15 rfl) (by decide) ?_
  refine Ev.newI' (n := 24) (N := 24) (am_dt kX10_init 16 rfl) wd_9 (by decide) (by decide) (by decide) (fun h13 eh13 => ?_)
  have k := k h13 eh13
  obtain ⟨f14, k⟩ := k
  obtain ⟨f15, k⟩ := k
  refine Ev.putRF' (ci := 10) (k := 12) (am_dt kX10_init 17 rfl) (by decide) (by decide) wd_545 rfl rfl rfl rfl rfl rfl f15 f14 (fun h16 eh16 => ?_)
  have k := k h16 eh16
  have f14 := kR eh16 f14
  refine Ev.aload_n 0 (am_dt kX10_init 18 rfl) rfl rfl ?_
  refine Ev.sipush (v := 6000) (am_dt kX10_init 19 rfl) (by decide) ?_
  refine Ev.newI' (n := 6000) (N := 6000) (am_dt kX10_init 20 rfl) wd_9 (by decide) (by decide) (by decide) (fun h17 eh17 => ?_)
  have k := k h17 eh17
  obtain ⟨f18, k⟩ := k
  obtain ⟨f19, k⟩ := k
  refine Ev.putRF' (ci := 10) (k := 13) (am_dt kX10_init 21 rfl) (by decide) (by decide) wd_546 rfl rfl rfl rfl rfl rfl f19 f18 (fun h20 eh20 => ?_)
  have k := k h20 eh20
  have f18 := kR eh20 f18
  refine Ev.aload_n 0 (am_dt kX10_init 22 rfl) rfl rfl ?_
  refine Ev.bipush (v := 16) (am_dt kX10_init 23 rfl) (by decide) ?_
  refine Ev.newJ' (n := 16) (N := 16) (am_dt kX10_init 24 rfl) wd_101 (by decide) (by decide) (by decide) (fun h21 eh21 => ?_)
  have k := k h21 eh21
  obtain ⟨f22, k⟩ := k
  obtain ⟨f23, k⟩ := k
  refine Ev.putRF' (ci := 10) (k := 14) (am_dt kX10_init 25 rfl) (by decide) (by decide) wd_547 rfl rfl rfl rfl rfl rfl f23 f22 (fun h24 eh24 => ?_)
  have k := k h24 eh24
  have f22 := kR eh24 f22
  refine Ev.aload_n 0 (am_dt kX10_init 26 rfl) rfl rfl ?_
  refine Ev.bipush (v := 96) (am_dt kX10_init 27 rfl) (by decide) ?_
  refine Ev.newI' (n := 96) (N := 96) (am_dt kX10_init 28 rfl) wd_9 (by decide) (by decide) (by decide) (fun h25 eh25 => ?_)
  have k := k h25 eh25
  obtain ⟨f26, k⟩ := k
  obtain ⟨f27, k⟩ := k
  refine Ev.putRF' (ci := 10) (k := 15) (am_dt kX10_init 29 rfl) (by decide) (by decide) wd_548 rfl rfl rfl rfl rfl rfl f27 f26 (fun h28 eh28 => ?_)
  have k := k h28 eh28
  have f26 := kR eh28 f26
  refine Ev.aload_n 0 (am_dt kX10_init 30 rfl) rfl rfl ?_
  refine Ev.bipush (v := 96) (am_dt kX10_init 31 rfl) (by decide) ?_
  refine Ev.newI' (n := 96) (N := 96) (am_dt kX10_init 32 rfl) wd_9 (by decide) (by decide) (by decide) (fun h29 eh29 => ?_)
  have k := k h29 eh29
  obtain ⟨f30, k⟩ := k
  obtain ⟨f31, k⟩ := k
  refine Ev.putRF' (ci := 10) (k := 16) (am_dt kX10_init 33 rfl) (by decide) (by decide) wd_549 rfl rfl rfl rfl rfl rfl f31 f30 (fun h32 eh32 => ?_)
  have k := k h32 eh32
  have f30 := kR eh32 f30
  refine Ev.aload_n 0 (am_dt kX10_init 34 rfl) rfl rfl ?_
  refine Ev.bipush (v := 96) (am_dt kX10_init 35 rfl) (by decide) ?_
  refine Ev.newI' (n := 96) (N := 96) (am_dt kX10_init 36 rfl) wd_9 (by decide) (by decide) (by decide) (fun h33 eh33 => ?_)
  have k := k h33 eh33
  obtain ⟨f34, k⟩ := k
  obtain ⟨f35, k⟩ := k
  refine Ev.putRF' (ci := 10) (k := 17) (am_dt kX10_init 37 rfl) (by decide) (by decide) wd_550 rfl rfl rfl rfl rfl rfl f35 f34 (fun h36 eh36 => ?_)
  have k := k h36 eh36
  have f34 := kR eh36 f34
  refine Ev.aload_n 0 (am_dt kX10_init 38 rfl) rfl rfl ?_
  refine Ev.bipush (v := 96) (am_dt kX10_init 39 rfl) (by decide) ?_
  refine Ev.newI' (n := 96) (N := 96) (am_dt kX10_init 40 rfl) wd_9 (by decide) (by decide) (by decide) (fun h37 eh37 => ?_)
  have k := k h37 eh37
  obtain ⟨f38, k⟩ := k
  obtain ⟨f39, k⟩ := k
  refine Ev.putRF' (ci := 10) (k := 18) (am_dt kX10_init 41 rfl) (by decide) (by decide) wd_551 rfl rfl rfl rfl rfl rfl f39 f38 (fun h40 eh40 => ?_)
  have k := k h40 eh40
  have f38 := kR eh40 f38
  refine Ev.aload_n 0 (am_dt kX10_init 42 rfl) rfl rfl ?_
  refine Ev.bipush (v := 96) (am_dt kX10_init 43 rfl) (by decide) ?_
  refine Ev.newI' (n := 96) (N := 96) (am_dt kX10_init 44 rfl) wd_9 (by decide) (by decide) (by decide) (fun h41 eh41 => ?_)
  have k := k h41 eh41
  obtain ⟨f42, k⟩ := k
  obtain ⟨f43, k⟩ := k
  refine Ev.putRF' (ci := 10) (k := 19) (am_dt kX10_init 45 rfl) (by decide) (by decide) wd_552 rfl rfl rfl rfl rfl rfl f43 f42 (fun h44 eh44 => ?_)
  have k := k h44 eh44
  have f42 := kR eh44 f42
  refine Ev.aload_n 0 (am_dt kX10_init 46 rfl) rfl rfl ?_
  refine Ev.sipush (v := 180) (am_dt kX10_init 47 rfl) (by decide) ?_
  refine Ev.newI' (n := 180) (N := 180) (am_dt kX10_init 48 rfl) wd_9 (by decide) (by decide) (by decide) (fun h45 eh45 => ?_)
  have k := k h45 eh45
  obtain ⟨f46, k⟩ := k
  obtain ⟨f47, k⟩ := k
  refine Ev.putRF' (ci := 10) (k := 20) (am_dt kX10_init 49 rfl) (by decide) (by decide) wd_553 rfl rfl rfl rfl rfl rfl f47 f46 (fun h48 eh48 => ?_)
  have k := k h48 eh48
  have f46 := kR eh48 f46
  refine Ev.aload_n 0 (am_dt kX10_init 50 rfl) rfl rfl ?_
  refine Ev.bipush (v := 7) (am_dt kX10_init 51 rfl) (by decide) ?_
  refine Ev.newI' (n := 7) (N := 7) (am_dt kX10_init 52 rfl) wd_9 (by decide) (by decide) (by decide) (fun h49 eh49 => ?_)
  have k := k h49 eh49
  obtain ⟨f50, k⟩ := k
  obtain ⟨f51, k⟩ := k
  refine Ev.putRF' (ci := 10) (k := 23) (am_dt kX10_init 53 rfl) (by decide) (by decide) wd_554 rfl rfl rfl rfl rfl rfl f51 f50 (fun h52 eh52 => ?_)
  have k := k h52 eh52
  have f50 := kR eh52 f50
  refine Ev.aload_n 0 (am_dt kX10_init 54 rfl) rfl rfl ?_
  refine Ev.bipush (v := 7) (am_dt kX10_init 55 rfl) (by decide) ?_
  refine Ev.newZ' (n := 7) (N := 7) (am_dt kX10_init 56 rfl) wd_582 (by decide) (by decide) (by decide) (fun h53 eh53 => ?_)
  have k := k h53 eh53
  obtain ⟨f54, k⟩ := k
  obtain ⟨f55, k⟩ := k
  refine Ev.putRF' (ci := 10) (k := 24) (am_dt kX10_init 57 rfl) (by decide) (by decide) wd_555 rfl rfl rfl rfl rfl rfl f55 f54 (fun h56 eh56 => ?_)
  have k := k h56 eh56
  have f54 := kR eh56 f54
  refine Ev.aload_n 0 (am_dt kX10_init 58 rfl) rfl rfl ?_
  refine Ev.bipush (v := 7) (am_dt kX10_init 59 rfl) (by decide) ?_
  refine Ev.newI' (n := 7) (N := 7) (am_dt kX10_init 60 rfl) wd_9 (by decide) (by decide) (by decide) (fun h57 eh57 => ?_)
  have k := k h57 eh57
  obtain ⟨f58, k⟩ := k
  obtain ⟨f59, k⟩ := k
  refine Ev.putRF' (ci := 10) (k := 25) (am_dt kX10_init 61 rfl) (by decide) (by decide) wd_556 rfl rfl rfl rfl rfl rfl f59 f58 (fun h60 eh60 => ?_)
  have k := k h60 eh60
  have f58 := kR eh60 f58
  refine Ev.aload_n 0 (am_dt kX10_init 62 rfl) rfl rfl ?_
  refine Ev.bipush (v := 7) (am_dt kX10_init 63 rfl) (by decide) ?_
  refine Ev.newI' (n := 7) (N := 7) (am_dt kX10_init 64 rfl) wd_9 (by decide) (by decide) (by decide) (fun h61 eh61 => ?_)
  have k := k h61 eh61
  obtain ⟨f62, k⟩ := k
  obtain ⟨f63, k⟩ := k
  refine Ev.putRF' (ci := 10) (k := 26) (am_dt kX10_init 65 rfl) (by decide) (by decide) wd_557 rfl rfl rfl rfl rfl rfl f63 f62 (fun h64 eh64 => ?_)
  have k := k h64 eh64
  have f62 := kR eh64 f62
  refine Ev.aload_n 0 (am_dt kX10_init 66 rfl) rfl rfl ?_
  refine Ev.bipush (v := 7) (am_dt kX10_init 67 rfl) (by decide) ?_
  refine Ev.newI' (n := 7) (N := 7) (am_dt kX10_init 68 rfl) wd_9 (by decide) (by decide) (by decide) (fun h65 eh65 => ?_)
  have k := k h65 eh65
  obtain ⟨f66, k⟩ := k
  obtain ⟨f67, k⟩ := k
  refine Ev.putRF' (ci := 10) (k := 27) (am_dt kX10_init 69 rfl) (by decide) (by decide) wd_558 rfl rfl rfl rfl rfl rfl f67 f66 (fun h68 eh68 => ?_)
  have k := k h68 eh68
  have f66 := kR eh68 f66
  refine Ev.aload_n 0 (am_dt kX10_init 70 rfl) rfl rfl ?_
  refine Ev.bipush (v := 7) (am_dt kX10_init 71 rfl) (by decide) ?_
  refine Ev.newI' (n := 7) (N := 7) (am_dt kX10_init 72 rfl) wd_9 (by decide) (by decide) (by decide) (fun h69 eh69 => ?_)
  have k := k h69 eh69
  obtain ⟨f70, k⟩ := k
  obtain ⟨f71, k⟩ := k
  refine Ev.putRF' (ci := 10) (k := 28) (am_dt kX10_init 73 rfl) (by decide) (by decide) wd_559 rfl rfl rfl rfl rfl rfl f71 f70 (fun h72 eh72 => ?_)
  have k := k h72 eh72
  have f70 := kR eh72 f70
  refine Ev.aload_n 0 (am_dt kX10_init 74 rfl) rfl rfl ?_
  refine Ev.bipush (v := 7) (am_dt kX10_init 75 rfl) (by decide) ?_
  refine Ev.newI' (n := 7) (N := 7) (am_dt kX10_init 76 rfl) wd_9 (by decide) (by decide) (by decide) (fun h73 eh73 => ?_)
  have k := k h73 eh73
  obtain ⟨f74, k⟩ := k
  obtain ⟨f75, k⟩ := k
  refine Ev.putRF' (ci := 10) (k := 29) (am_dt kX10_init 77 rfl) (by decide) (by decide) wd_560 rfl rfl rfl rfl rfl rfl f75 f74 (fun h76 eh76 => ?_)
  have k := k h76 eh76
  have f74 := kR eh76 f74
  refine Ev.aload_n 0 (am_dt kX10_init 78 rfl) rfl rfl ?_
  refine Ev.bipush (v := 7) (am_dt kX10_init 79 rfl) (by decide) ?_
  refine Ev.newI' (n := 7) (N := 7) (am_dt kX10_init 80 rfl) wd_9 (by decide) (by decide) (by decide) (fun h77 eh77 => ?_)
  have k := k h77 eh77
  obtain ⟨f78, k⟩ := k
  obtain ⟨f79, k⟩ := k
  refine Ev.putRF' (ci := 10) (k := 30) (am_dt kX10_init 81 rfl) (by decide) (by decide) wd_561 rfl rfl rfl rfl rfl rfl f79 f78 (fun h80 eh80 => ?_)
  have k := k h80 eh80
  have f78 := kR eh80 f78
  refine Ev.aload_n 0 (am_dt kX10_init 82 rfl) rfl rfl ?_
  refine Ev.bipush (v := 7) (am_dt kX10_init 83 rfl) (by decide) ?_
  refine Ev.newI' (n := 7) (N := 7) (am_dt kX10_init 84 rfl) wd_9 (by decide) (by decide) (by decide) (fun h81 eh81 => ?_)
  have k := k h81 eh81
  obtain ⟨f82, k⟩ := k
  obtain ⟨f83, k⟩ := k
  refine Ev.putRF' (ci := 10) (k := 31) (am_dt kX10_init 85 rfl) (by decide) (by decide) wd_562 rfl rfl rfl rfl rfl rfl f83 f82 (fun h84 eh84 => ?_)
  have k := k h84 eh84
  have f82 := kR eh84 f82
  refine Ev.aload_n 0 (am_dt kX10_init 86 rfl) rfl rfl ?_
  refine Ev.bipush (v := 7) (am_dt kX10_init 87 rfl) (by decide) ?_
  refine Ev.newI' (n := 7) (N := 7) (am_dt kX10_init 88 rfl) wd_9 (by decide) (by decide) (by decide) (fun h85 eh85 => ?_)
  have k := k h85 eh85
  obtain ⟨f86, k⟩ := k
  obtain ⟨f87, k⟩ := k
  refine Ev.putRF' (ci := 10) (k := 32) (am_dt kX10_init 89 rfl) (by decide) (by decide) wd_563 rfl rfl rfl rfl rfl rfl f87 f86 (fun h88 eh88 => ?_)
  have k := k h88 eh88
  have f86 := kR eh88 f86
  refine Ev.aload_n 0 (am_dt kX10_init 90 rfl) rfl rfl ?_
  refine Ev.bipush (v := 7) (am_dt kX10_init 91 rfl) (by decide) ?_
  refine Ev.newI' (n := 7) (N := 7) (am_dt kX10_init 92 rfl) wd_9 (by decide) (by decide) (by decide) (fun h89 eh89 => ?_)
  have k := k h89 eh89
  obtain ⟨f90, k⟩ := k
  obtain ⟨f91, k⟩ := k
  refine Ev.putRF' (ci := 10) (k := 33) (am_dt kX10_init 93 rfl) (by decide) (by decide) wd_564 rfl rfl rfl rfl rfl rfl f91 f90 (fun h92 eh92 => ?_)
  have k := k h92 eh92
  have f90 := kR eh92 f90
  refine Ev.aload_n 0 (am_dt kX10_init 94 rfl) rfl rfl ?_
  refine Ev.bipush (v := 20) (am_dt kX10_init 95 rfl) (by decide) ?_
  refine Ev.newI' (n := 20) (N := 20) (am_dt kX10_init 96 rfl) wd_9 (by decide) (by decide) (by decide) (fun h93 eh93 => ?_)
  have k := k h93 eh93
  obtain ⟨f94, k⟩ := k
  obtain ⟨f95, k⟩ := k
  refine Ev.putRF' (ci := 10) (k := 34) (am_dt kX10_init 97 rfl) (by decide) (by decide) wd_565 rfl rfl rfl rfl rfl rfl f95 f94 (fun h96 eh96 => ?_)
  have k := k h96 eh96
  have f94 := kR eh96 f94
  refine Ev.aload_n 0 (am_dt kX10_init 98 rfl) rfl rfl ?_
  refine Ev.sipush (v := 360) (am_dt kX10_init 99 rfl) (by decide) ?_
  refine Ev.newI' (n := 360) (N := 360) (am_dt kX10_init 100 rfl) wd_9 (by decide) (by decide) (by decide) (fun h97 eh97 => ?_)
  have k := k h97 eh97
  obtain ⟨f98, k⟩ := k
  obtain ⟨f99, k⟩ := k
  refine Ev.putRF' (ci := 10) (k := 37) (am_dt kX10_init 101 rfl) (by decide) (by decide) wd_566 rfl rfl rfl rfl rfl rfl f99 f98 (fun h100 eh100 => ?_)
  have k := k h100 eh100
  have f98 := kR eh100 f98
  refine Ev.aload_n 0 (am_dt kX10_init 102 rfl) rfl rfl ?_
  refine Ev.sipush (v := 360) (am_dt kX10_init 103 rfl) (by decide) ?_
  refine Ev.newI' (n := 360) (N := 360) (am_dt kX10_init 104 rfl) wd_9 (by decide) (by decide) (by decide) (fun h101 eh101 => ?_)
  have k := k h101 eh101
  obtain ⟨f102, k⟩ := k
  obtain ⟨f103, k⟩ := k
  refine Ev.putRF' (ci := 10) (k := 38) (am_dt kX10_init 105 rfl) (by decide) (by decide) wd_567 rfl rfl rfl rfl rfl rfl f103 f102 (fun h104 eh104 => ?_)
  have k := k h104 eh104
  have f102 := kR eh104 f102
  refine Ev.aload_n 0 (am_dt kX10_init 106 rfl) rfl rfl ?_
  refine Ev.sipush (v := 360) (am_dt kX10_init 107 rfl) (by decide) ?_
  refine Ev.newI' (n := 360) (N := 360) (am_dt kX10_init 108 rfl) wd_9 (by decide) (by decide) (by decide) (fun h105 eh105 => ?_)
  have k := k h105 eh105
  obtain ⟨f106, k⟩ := k
  obtain ⟨f107, k⟩ := k
  refine Ev.putRF' (ci := 10) (k := 39) (am_dt kX10_init 109 rfl) (by decide) (by decide) wd_568 rfl rfl rfl rfl rfl rfl f107 f106 (fun h108 eh108 => ?_)
  have k := k h108 eh108
  have f106 := kR eh108 f106
  refine Ev.aload_n 0 (am_dt kX10_init 110 rfl) rfl rfl ?_
  refine Ev.sipush (v := 360) (am_dt kX10_init 111 rfl) (by decide) ?_
  refine Ev.newI' (n := 360) (N := 360) (am_dt kX10_init 112 rfl) wd_9 (by decide) (by decide) (by decide) (fun h109 eh109 => ?_)
  have k := k h109 eh109
  obtain ⟨f110, k⟩ := k
  obtain ⟨f111, k⟩ := k
  refine Ev.putRF' (ci := 10) (k := 40) (am_dt kX10_init 113 rfl) (by decide) (by decide) wd_569 rfl rfl rfl rfl rfl rfl f111 f110 (fun h112 eh112 => ?_)
  have k := k h112 eh112
  have f110 := kR eh112 f110
  refine Ev.aload_n 0 (am_dt kX10_init 114 rfl) rfl rfl ?_
  refine Ev.sipush (v := 360) (am_dt kX10_init 115 rfl) (by decide) ?_
  refine Ev.newI' (n := 360) (N := 360) (am_dt kX10_init 116 rfl) wd_9 (by decide) (by decide) (by decide) (fun h113 eh113 => ?_)
  have k := k h113 eh113
  obtain ⟨f114, k⟩ := k
  obtain ⟨f115, k⟩ := k
  refine Ev.putRF' (ci := 10) (k := 41) (am_dt kX10_init 117 rfl) (by decide) (by decide) wd_570 rfl rfl rfl rfl rfl rfl f115 f114 (fun h116 eh116 => ?_)
  have k := k h116 eh116
  have f114 := kR eh116 f114
  refine Ev.aload_n 0 (am_dt kX10_init 118 rfl) rfl rfl ?_
  refine Ev.sipush (v := 360) (am_dt kX10_init 119 rfl) (by decide) ?_
  refine Ev.newI' (n := 360) (N := 360) (am_dt kX10_init 120 rfl) wd_9 (by decide) (by decide) (by decide) (fun h117 eh117 => ?_)
  have k := k h117 eh117
  obtain ⟨f118, k⟩ := k
  obtain ⟨f119, k⟩ := k
  refine Ev.putRF' (ci := 10) (k := 42) (am_dt kX10_init 121 rfl) (by decide) (by decide) wd_571 rfl rfl rfl rfl rfl rfl f119 f118 (fun h120 eh120 => ?_)
  have k := k h120 eh120
  have f118 := kR eh120 f118
  refine Ev.aload_n 0 (am_dt kX10_init 122 rfl) rfl rfl ?_
  refine Ev.sipush (v := 360) (am_dt kX10_init 123 rfl) (by decide) ?_
  refine Ev.newI' (n := 360) (N := 360) (am_dt kX10_init 124 rfl) wd_9 (by decide) (by decide) (by decide) (fun h121 eh121 => ?_)
  have k := k h121 eh121
  obtain ⟨f122, k⟩ := k
  obtain ⟨f123, k⟩ := k
  refine Ev.putRF' (ci := 10) (k := 43) (am_dt kX10_init 125 rfl) (by decide) (by decide) wd_572 rfl rfl rfl rfl rfl rfl f123 f122 (fun h124 eh124 => ?_)
  have k := k h124 eh124
  have f122 := kR eh124 f122
  refine Ev.aload_n 0 (am_dt kX10_init 126 rfl) rfl rfl ?_
  refine Ev.sipush (v := 360) (am_dt kX10_init 127 rfl) (by decide) ?_
  refine Ev.newI' (n := 360) (N := 360) (am_dt kX10_init 128 rfl) wd_9 (by decide) (by decide) (by decide) (fun h125 eh125 => ?_)
  have k := k h125 eh125
  obtain ⟨f126, k⟩ := k
  obtain ⟨f127, k⟩ := k
  refine Ev.putRF' (ci := 10) (k := 45) (am_dt kX10_init 129 rfl) (by decide) (by decide) wd_573 rfl rfl rfl rfl rfl rfl f127 f126 (fun h128 eh128 => ?_)
  have k := k h128 eh128
  have f126 := kR eh128 f126
  refine Ev.aload_n 0 (am_dt kX10_init 130 rfl) rfl rfl ?_
  refine Ev.sipush (v := 360) (am_dt kX10_init 131 rfl) (by decide) ?_
  refine Ev.newI' (n := 360) (N := 360) (am_dt kX10_init 132 rfl) wd_9 (by decide) (by decide) (by decide) (fun h129 eh129 => ?_)
  have k := k h129 eh129
  obtain ⟨f130, k⟩ := k
  obtain ⟨f131, k⟩ := k
  refine Ev.putRF' (ci := 10) (k := 46) (am_dt kX10_init 133 rfl) (by decide) (by decide) wd_574 rfl rfl rfl rfl rfl rfl f131 f130 (fun h132 eh132 => ?_)
  have k := k h132 eh132
  have f130 := kR eh132 f130
  refine Ev.aload_n 0 (am_dt kX10_init 134 rfl) rfl rfl ?_
  refine Ev.sipush (v := 360) (am_dt kX10_init 135 rfl) (by decide) ?_
  refine Ev.newI' (n := 360) (N := 360) (am_dt kX10_init 136 rfl) wd_9 (by decide) (by decide) (by decide) (fun h133 eh133 => ?_)
  have k := k h133 eh133
  obtain ⟨f134, k⟩ := k
  obtain ⟨f135, k⟩ := k
  refine Ev.putRF' (ci := 10) (k := 47) (am_dt kX10_init 137 rfl) (by decide) (by decide) wd_575 rfl rfl rfl rfl rfl rfl f135 f134 (fun h136 eh136 => ?_)
  have k := k h136 eh136
  have f134 := kR eh136 f134
  refine Ev.aload_n 0 (am_dt kX10_init 138 rfl) rfl rfl ?_
  refine Ev.sipush (v := 256) (am_dt kX10_init 139 rfl) (by decide) ?_
  refine Ev.newI' (n := 256) (N := 256) (am_dt kX10_init 140 rfl) wd_9 (by decide) (by decide) (by decide) (fun h137 eh137 => ?_)
  have k := k h137 eh137
  obtain ⟨f138, k⟩ := k
  obtain ⟨f139, k⟩ := k
  refine Ev.putRF' (ci := 10) (k := 51) (am_dt kX10_init 141 rfl) (by decide) (by decide) wd_576 rfl rfl rfl rfl rfl rfl f139 f138 (fun h140 eh140 => ?_)
  have k := k h140 eh140
  have f138 := kR eh140 f138
  refine Ev.aload_n 0 (am_dt kX10_init 142 rfl) rfl rfl ?_
  refine Ev.sipush (v := 2048) (am_dt kX10_init 143 rfl) (by decide) ?_
  refine Ev.newI' (n := 2048) (N := 2048) (am_dt kX10_init 144 rfl) wd_9 (by decide) (by decide) (by decide) (fun h141 eh141 => ?_)
  have k := k h141 eh141
  obtain ⟨f142, k⟩ := k
  obtain ⟨f143, k⟩ := k
  refine Ev.putRF' (ci := 10) (k := 52) (am_dt kX10_init 145 rfl) (by decide) (by decide) wd_577 rfl rfl rfl rfl rfl rfl f143 f142 (fun h144 eh144 => ?_)
  have k := k h144 eh144
  have f142 := kR eh144 f142
  refine Ev.aload_n 0 (am_dt kX10_init 146 rfl) rfl rfl ?_
  refine Ev.iconst (v := 4) (am_dt kX10_init 147 rfl) (by decide) ?_
  refine Ev.newZ' (n := 4) (N := 4) (am_dt kX10_init 148 rfl) wd_582 (by decide) (by decide) (by decide) (fun h145 eh145 => ?_)
  have k := k h145 eh145
  obtain ⟨f146, k⟩ := k
  obtain ⟨f147, k⟩ := k
  refine Ev.putRF' (ci := 10) (k := 54) (am_dt kX10_init 149 rfl) (by decide) (by decide) wd_578 rfl rfl rfl rfl rfl rfl f147 f146 (fun h148 eh148 => ?_)
  have k := k h148 eh148
  have f146 := kR eh148 f146
  refine Ev.aload_n 0 (am_dt kX10_init 150 rfl) rfl rfl ?_
  refine Ev.iconst (v := 0) (am_dt kX10_init 151 rfl) (by decide) ?_
  refine Ev.callV (ci := 10) (v := mX10_starts0) (As := [.int 0]) (st := []) okX10_starts0 wd_579 wd_580 wd_581 (am_dt kX10_init 152 rfl) (by decide) rfl rfl (Nat.le_of_ble_eq_true rfl) (Nat.le_of_ble_eq_true rfl) f146 ?_
  refine EvM.mono k (fun r150 h149 k => ?_)
  obtain ⟨rfl, k⟩ := k
  show Ev w _ _ _ 319 _ [] _ _
  exact Ev.vret (am_dt kX10_init 153 rfl) rfl k
set_option maxRecDepth 20000 in
set_option maxHeartbeats 2000000 in
theorem bX10_thrown_0 {w : am_W} {d : Nat} {h : am_H} {Q : Option Value → am_H → Prop} {a0 : Nat}  (k : (am_L 10 a0 h) ∧ (Q (some (.int (hI h a0 0))) h)) : EvM w mX10_thrown d [.ref a0] h Q := by
  show Ev w (am_Z w) mX10_thrown d 0 [(0, .ref a0)] [] h Q
  refine Ev.aload_n 0 (am_dt kX10_thrown 0 rfl) rfl rfl ?_
  obtain ⟨f1, k⟩ := k
  refine Ev.getI (ci := 10) (k := 0) (am_dt kX10_thrown 1 rfl) (by decide) (by decide) rfl wd_583 f1.1 ?_
  exact Ev.iret .int (am_dt kX10_thrown 2 rfl) rfl rfl k
set_option maxRecDepth 20000 in
set_option maxHeartbeats 2000000 in
theorem bX10_within_0 {w : am_W} {d : Nat} {h : am_H} {Q : Option Value → am_H → Prop} {x0 : Int32} {x1 : Int32} {x2 : Int32}  (k : (x0 < x1 → (Q (some (.int 0)) h)) ∧ (¬ x0 < x1 → ((x2 < x0 → (Q (some (.int 0)) h)) ∧ (¬ x2 < x0 → (Q (some (.int 1)) h))))) : EvM w mX10_within d [.int x0, .int x1, .int x2] h Q := by
  show Ev w (am_Z w) mX10_within d 0 [(0, .int x0), (1, .int x1), (2, .int x2)] [] h Q
  refine Ev.iload_n 0 (am_dt kX10_within 0 rfl) rfl rfl ?_
  refine Ev.iload_n 1 (am_dt kX10_within 1 rfl) rfl rfl ?_
  refine Ev.icmp_lt (tgt := 14) (am_dt kX10_within 2 rfl) (by decide) (fun c => ?_) (fun c => ?_)
  · have k := k.1 c
    refine Ev.iconst (v := 0) (am_dt kX10_within 8 rfl) (by decide) ?_
    exact Ev.iret .boolean (am_dt kX10_within 9 rfl) rfl rfl k
  · have k := k.2 c
    refine Ev.iload_n 0 (am_dt kX10_within 3 rfl) rfl rfl ?_
    refine Ev.iload_n 2 (am_dt kX10_within 4 rfl) rfl rfl ?_
    refine Ev.icmp_gt (tgt := 14) (am_dt kX10_within 5 rfl) (by decide) (fun c => ?_) (fun c => ?_)
    · have k := k.1 c
      refine Ev.iconst (v := 0) (am_dt kX10_within 8 rfl) (by decide) ?_
      exact Ev.iret .boolean (am_dt kX10_within 9 rfl) rfl rfl k
    · have k := k.2 c
      refine Ev.iconst (v := 1) (am_dt kX10_within 6 rfl) (by decide) ?_
      refine Ev.goto (tgt := 15) (am_dt kX10_within 7 rfl) (by decide) ?_
      exact Ev.iret .boolean (am_dt kX10_within 9 rfl) rfl rfl k
set_option maxRecDepth 20000 in
set_option maxHeartbeats 2000000 in
theorem bX10_gcd_0 {w : am_W} {d : Nat} {h : am_H} {Q : Option Value → am_H → Prop} {y0 : Int64} {y2 : Int64}  (k : Ev w (am_Z w) mX10_gcd d 6 [(4, .long y0), (6, .long y2)] [] h Q) : EvM w mX10_gcd d [.long y0, .long y2] h Q := by
  show Ev w (am_Z w) mX10_gcd d 0 [(0, .long y0), (2, .long y2)] [] h Q
  refine Ev.lload_n 0 (am_dt kX10_gcd 0 rfl) rfl rfl ?_
  refine Ev.lstore (lv' := [(4, .long y0), (0, .long y0), (2, .long y2)]) (am_dt kX10_gcd 1 rfl) (by decide) rfl ?_
  refine Ev.lload_n 2 (am_dt kX10_gcd 2 rfl) rfl rfl ?_
  refine Ev.lstore (lv' := [(6, .long y2), (4, .long y0), (0, .long y0), (2, .long y2)]) (am_dt kX10_gcd 3 rfl) (by decide) rfl ?_
  exact Ev.sub [1, 0] rfl k
set_option maxRecDepth 20000 in
set_option maxHeartbeats 2000000 in
theorem bX10_gcd_6 {w : am_W} {d : Nat} {h : am_H} {Q : Option Value → am_H → Prop} {y4 : Int64} {y6 : Int64}  (k : (y6 = 0 → (Q (some (.long y4)) h)) ∧ (¬ y6 = 0 → ((¬ y6 = 0) ∧ (Ev w (am_Z w) mX10_gcd d 6 [(4, .long y6), (6, .long (y4 - y4 / y6 * y6))] [] h Q)))) : Ev w (am_Z w) mX10_gcd d 6 [(4, .long y4), (6, .long y6)] [] h Q := by
  refine Ev.lload 1 (am_dt kX10_gcd 4 rfl) rfl ?_
  refine Ev.lconst (v := 0) (am_dt kX10_gcd 5 rfl) (by decide) ?_
  refine Ev.lcmp (am_dt kX10_gcd 6 rfl) ?_
  refine Ev.if_eq (tgt := 31) (am_dt kX10_gcd 7 rfl) (by decide) (fun c => ?_) (fun c => ?_)
  · have k := k.1 (am_lc.mp c)
    refine Ev.lload 0 (am_dt kX10_gcd 17 rfl) rfl ?_
    exact Ev.lret (am_dt kX10_gcd 18 rfl) rfl k
  · have k := k.2 (mt am_lc.mpr c)
    refine Ev.lload 0 (am_dt kX10_gcd 8 rfl) rfl ?_
    refine Ev.lload 1 (am_dt kX10_gcd 9 rfl) rfl ?_
    obtain ⟨f1, k⟩ := k
    refine Ev.lrem (am_dt kX10_gcd 10 rfl) f1 ?_
    refine Ev.lstore (lv' := [(8, .long (y4 - y4 / y6 * y6)), (4, .long y4), (6, .long y6)]) (am_dt kX10_gcd 11 rfl) (by decide) rfl ?_
    refine Ev.lload 2 (am_dt kX10_gcd 12 rfl) rfl ?_
    refine Ev.lstore (lv' := [(4, .long y6), (8, .long (y4 - y4 / y6 * y6)), (6, .long y6)]) (am_dt kX10_gcd 13 rfl) (by decide) rfl ?_
    refine Ev.lload 1 (am_dt kX10_gcd 14 rfl) rfl ?_
    refine Ev.lstore (lv' := [(6, .long (y4 - y4 / y6 * y6)), (4, .long y6), (8, .long (y4 - y4 / y6 * y6))]) (am_dt kX10_gcd 15 rfl) (by decide) rfl ?_
    refine Ev.goto (tgt := 6) (am_dt kX10_gcd 16 rfl) (by decide) ?_
    exact Ev.sub [1, 0] rfl k
set_option maxRecDepth 20000 in
set_option maxHeartbeats 2000000 in
theorem bX10_feed_0 {w : am_W} {d : Nat} {h : am_H} {Q : Option Value → am_H → Prop} {a0 : Nat} {y1 : Int64} {y3 : Int64} {y5 : Int64}  (k : (am_L 10 a0 h) ∧ (∀ h2 : am_H, h2 = sI h a0 0 0 → (Ev w (am_Z w) mX10_feed d 8 [(0, .ref a0), (1, .long y1), (3, .long y3), (5, .long y5), (7, .int 0)] [] h2 Q))) : EvM w mX10_feed d [.ref a0, .long y1, .long y3, .long y5] h Q := by
  show Ev w (am_Z w) mX10_feed d 0 [(0, .ref a0), (1, .long y1), (3, .long y3), (5, .long y5)] [] h Q
  refine Ev.aload_n 0 (am_dt kX10_feed 0 rfl) rfl rfl ?_
  refine Ev.iconst (v := 0) (am_dt kX10_feed 1 rfl) (by decide) ?_
  obtain ⟨f1, k⟩ := k
  refine Ev.putI' (ci := 10) (k := 0) (am_dt kX10_feed 2 rfl) (by decide) (by decide) wd_583 rfl rfl rfl rfl f1.1 (fun h2 eh2 => ?_)
  have k := k h2 eh2
  have f1 := am_LsI eh2 f1
  refine Ev.iconst (v := 0) (am_dt kX10_feed 3 rfl) (by decide) ?_
  refine Ev.istore (lv' := [(7, .int 0), (0, .ref a0), (1, .long y1), (3, .long y3), (5, .long y5)]) (am_dt kX10_feed 4 rfl) (by decide) rfl ?_
  exact Ev.sub [1, 2, 3, 4, 0] rfl k
set_option maxRecDepth 20000 in
set_option maxHeartbeats 2000000 in
theorem bX10_feed_8 {w : am_W} {d : Nat} {h : am_H} {Q : Option Value → am_H → Prop} {a0 : Nat} {y1 : Int64} {y3 : Int64} {y5 : Int64} {x7 : Int32}  (k : (24 ≤ x7 → ((am_L 10 a0 h) ∧ (Q (some (.int (hI h a0 1))) h))) ∧ (¬ 24 ≤ x7 → ((8 ≤ x7 → ((16 ≤ x7 → (Ev w (am_Z w) mX10_feed d 39 [(0, .ref a0), (1, .long y1), (3, .long y3), (5, .long y5), (7, .int x7)] [.long y5] h Q)) ∧ (¬ 16 ≤ x7 → (Ev w (am_Z w) mX10_feed d 39 [(0, .ref a0), (1, .long y1), (3, .long y3), (5, .long y5), (7, .int x7)] [.long y3] h Q)))) ∧ (¬ 8 ≤ x7 → (Ev w (am_Z w) mX10_feed d 39 [(0, .ref a0), (1, .long y1), (3, .long y3), (5, .long y5), (7, .int x7)] [.long y1] h Q))))) : Ev w (am_Z w) mX10_feed d 8 [(0, .ref a0), (1, .long y1), (3, .long y3), (5, .long y5), (7, .int x7)] [] h Q := by
  refine Ev.iload 4 (am_dt kX10_feed 5 rfl) rfl ?_
  refine Ev.bipush (v := 24) (am_dt kX10_feed 6 rfl) (by decide) ?_
  refine Ev.icmp_ge (tgt := 120) (am_dt kX10_feed 7 rfl) (by decide) (fun c => ?_) (fun c => ?_)
  · have k := k.1 c
    refine Ev.aload_n 0 (am_dt kX10_feed 60 rfl) rfl rfl ?_
    obtain ⟨f1, k⟩ := k
    refine Ev.getI (ci := 10) (k := 1) (am_dt kX10_feed 61 rfl) (by decide) (by decide) rfl wd_584 f1.1 ?_
    exact Ev.iret .int (am_dt kX10_feed 62 rfl) rfl rfl k
  · have k := k.2 c
    refine Ev.iload 4 (am_dt kX10_feed 8 rfl) rfl ?_
    refine Ev.bipush (v := 8) (am_dt kX10_feed 9 rfl) (by decide) ?_
    refine Ev.icmp_ge (tgt := 26) (am_dt kX10_feed 10 rfl) (by decide) (fun c => ?_) (fun c => ?_)
    · have k := k.1 c
      refine Ev.iload 4 (am_dt kX10_feed 13 rfl) rfl ?_
      refine Ev.bipush (v := 16) (am_dt kX10_feed 14 rfl) (by decide) ?_
      refine Ev.icmp_ge (tgt := 37) (am_dt kX10_feed 15 rfl) (by decide) (fun c => ?_) (fun c => ?_)
      · have k := k.1 c
        refine Ev.lload 3 (am_dt kX10_feed 18 rfl) rfl ?_
        exact k
      · have k := k.2 c
        refine Ev.lload_n 2 (am_dt kX10_feed 16 rfl) rfl rfl ?_
        refine Ev.goto (tgt := 39) (am_dt kX10_feed 17 rfl) (by decide) ?_
        exact k
    · have k := k.2 c
      refine Ev.lload_n 1 (am_dt kX10_feed 11 rfl) rfl rfl ?_
      refine Ev.goto (tgt := 39) (am_dt kX10_feed 12 rfl) (by decide) ?_
      exact k
set_option maxRecDepth 20000 in
set_option maxHeartbeats 2000000 in
theorem bX10_feed_39 {w : am_W} {d : Nat} {h : am_H} {Q : Option Value → am_H → Prop} {a0 : Nat} {y1 : Int64} {y3 : Int64} {y5 : Int64} {x7 : Int32} {s0 : Int64} (k : (am_L 10 a0 h) ∧ ((1000 ≤ (hI h a0 1) → (Ev w (am_Z w) mX10_feed d 8 [(0, .ref a0), (1, .long y1), (3, .long y3), (5, .long y5), (7, .int (x7 + 1))] [] h Q)) ∧ (¬ 1000 ≤ (hI h a0 1) → (((Int64.toInt32 (((Int64.toUInt64 s0 >>> ((Int32.toInt64 (56 - (8 * (x7 &&& 7)))).toUInt64 &&& Int64.toUInt64 63)).toInt64) &&& 255)) = 10 → (Ev w (am_Z w) mX10_feed d 93 [(0, .ref a0), (1, .long y1), (3, .long y3), (5, .long y5), (7, .int x7), (10, .int (Int64.toInt32 (((Int64.toUInt64 s0 >>> ((Int32.toInt64 (56 - (8 * (x7 &&& 7)))).toUInt64 &&& Int64.toUInt64 63)).toInt64) &&& 255)))] [] h Q)) ∧ (¬ (Int64.toInt32 (((Int64.toUInt64 s0 >>> ((Int32.toInt64 (56 - (8 * (x7 &&& 7)))).toUInt64 &&& Int64.toUInt64 63)).toInt64) &&& 255)) = 10 → (((Int64.toInt32 (((Int64.toUInt64 s0 >>> ((Int32.toInt64 (56 - (8 * (x7 &&& 7)))).toUInt64 &&& Int64.toUInt64 63)).toInt64) &&& 255)) < 32 → (Ev w (am_Z w) mX10_feed d 8 [(0, .ref a0), (1, .long y1), (3, .long y3), (5, .long y5), (7, .int (x7 + 1))] [] h Q)) ∧ (¬ (Int64.toInt32 (((Int64.toUInt64 s0 >>> ((Int32.toInt64 (56 - (8 * (x7 &&& 7)))).toUInt64 &&& Int64.toUInt64 63)).toInt64) &&& 255)) < 32 → ((126 < (Int64.toInt32 (((Int64.toUInt64 s0 >>> ((Int32.toInt64 (56 - (8 * (x7 &&& 7)))).toUInt64 &&& Int64.toUInt64 63)).toInt64) &&& 255)) → (Ev w (am_Z w) mX10_feed d 8 [(0, .ref a0), (1, .long y1), (3, .long y3), (5, .long y5), (7, .int (x7 + 1))] [] h Q)) ∧ (¬ 126 < (Int64.toInt32 (((Int64.toUInt64 s0 >>> ((Int32.toInt64 (56 - (8 * (x7 &&& 7)))).toUInt64 &&& Int64.toUInt64 63)).toInt64) &&& 255)) → (Ev w (am_Z w) mX10_feed d 93 [(0, .ref a0), (1, .long y1), (3, .long y3), (5, .long y5), (7, .int x7), (10, .int (Int64.toInt32 (((Int64.toUInt64 s0 >>> ((Int32.toInt64 (56 - (8 * (x7 &&& 7)))).toUInt64 &&& Int64.toUInt64 63)).toInt64) &&& 255)))] [] h Q)))))))))) : Ev w (am_Z w) mX10_feed d 39 [(0, .ref a0), (1, .long y1), (3, .long y3), (5, .long y5), (7, .int x7)] [.long s0] h Q := by
  refine Ev.lstore (lv' := [(8, .long s0), (0, .ref a0), (1, .long y1), (3, .long y3), (5, .long y5), (7, .int x7)]) (am_dt kX10_feed 19 rfl) (by decide) rfl ?_
  refine Ev.lload 0 (am_dt kX10_feed 20 rfl) rfl ?_
  refine Ev.bipush (v := 56) (am_dt kX10_feed 21 rfl) (by decide) ?_
  refine Ev.bipush (v := 8) (am_dt kX10_feed 22 rfl) (by decide) ?_
  refine Ev.iload 5 (am_dt kX10_feed 23 rfl) rfl ?_
  refine Ev.bipush (v := 7) (am_dt kX10_feed 24 rfl) (by decide) ?_
  refine Ev.iand (am_dt kX10_feed 25 rfl) ?_
  refine Ev.imul (am_dt kX10_feed 26 rfl) ?_
  refine Ev.isub (am_dt kX10_feed 27 rfl) ?_
  refine Ev.lushr (am_dt kX10_feed 28 rfl) ?_
  refine Ev.ldc2 (v := 255) (am_dt kX10_feed 29 rfl) wd_585 ?_
  refine Ev.land (am_dt kX10_feed 30 rfl) ?_
  refine Ev.l2i (am_dt kX10_feed 31 rfl) ?_
  refine Ev.istore (lv' := [(10, .int (Int64.toInt32 (((Int64.toUInt64 s0 >>> ((Int32.toInt64 (56 - (8 * (x7 &&& 7)))).toUInt64 &&& Int64.toUInt64 63)).toInt64) &&& 255))), (8, .long s0), (0, .ref a0), (1, .long y1), (3, .long y3), (5, .long y5), (7, .int x7)]) (am_dt kX10_feed 32 rfl) (by decide) rfl ?_
  refine Ev.aload_n 2 (am_dt kX10_feed 33 rfl) rfl rfl ?_
  obtain ⟨f1, k⟩ := k
  refine Ev.getI (ci := 10) (k := 1) (am_dt kX10_feed 34 rfl) (by decide) (by decide) rfl wd_584 f1.1 ?_
  refine Ev.sipush (v := 1000) (am_dt kX10_feed 35 rfl) (by decide) ?_
  refine Ev.icmp_ge (tgt := 114) (am_dt kX10_feed 36 rfl) (by decide) (fun c => ?_) (fun c => ?_)
  · have k := k.1 c
    refine Ev.iinc (v := x7 + 1) (lv' := [(7, .int (x7 + 1)), (10, .int (Int64.toInt32 (((Int64.toUInt64 s0 >>> ((Int32.toInt64 (56 - (8 * (x7 &&& 7)))).toUInt64 &&& Int64.toUInt64 63)).toInt64) &&& 255))), (8, .long s0), (0, .ref a0), (1, .long y1), (3, .long y3), (5, .long y5)]) 6 (am_dt kX10_feed 58 rfl) rfl rfl (by decide) rfl ?_
    refine Ev.goto (tgt := 8) (am_dt kX10_feed 59 rfl) (by decide) ?_
    exact Ev.sub [3, 4, 5, 6, 0] rfl k
  · have k := k.2 c
    refine Ev.iload 0 (am_dt kX10_feed 37 rfl) rfl ?_
    refine Ev.bipush (v := 10) (am_dt kX10_feed 38 rfl) (by decide) ?_
    refine Ev.icmp_eq (tgt := 93) (am_dt kX10_feed 39 rfl) (by decide) (fun c => ?_) (fun c => ?_)
    · have k := k.1 c
      exact Ev.sub [2, 3, 4, 5, 6, 0] rfl k
    · have k := k.2 c
      refine Ev.iload 0 (am_dt kX10_feed 40 rfl) rfl ?_
      refine Ev.bipush (v := 32) (am_dt kX10_feed 41 rfl) (by decide) ?_
      refine Ev.icmp_lt (tgt := 114) (am_dt kX10_feed 42 rfl) (by decide) (fun c => ?_) (fun c => ?_)
      · have k := k.1 c
        refine Ev.iinc (v := x7 + 1) (lv' := [(7, .int (x7 + 1)), (10, .int (Int64.toInt32 (((Int64.toUInt64 s0 >>> ((Int32.toInt64 (56 - (8 * (x7 &&& 7)))).toUInt64 &&& Int64.toUInt64 63)).toInt64) &&& 255))), (8, .long s0), (0, .ref a0), (1, .long y1), (3, .long y3), (5, .long y5)]) 6 (am_dt kX10_feed 58 rfl) rfl rfl (by decide) rfl ?_
        refine Ev.goto (tgt := 8) (am_dt kX10_feed 59 rfl) (by decide) ?_
        exact Ev.sub [3, 4, 5, 6, 0] rfl k
      · have k := k.2 c
        refine Ev.iload 0 (am_dt kX10_feed 43 rfl) rfl ?_
        refine Ev.bipush (v := 126) (am_dt kX10_feed 44 rfl) (by decide) ?_
        refine Ev.icmp_gt (tgt := 114) (am_dt kX10_feed 45 rfl) (by decide) (fun c => ?_) (fun c => ?_)
        · have k := k.1 c
          refine Ev.iinc (v := x7 + 1) (lv' := [(7, .int (x7 + 1)), (10, .int (Int64.toInt32 (((Int64.toUInt64 s0 >>> ((Int32.toInt64 (56 - (8 * (x7 &&& 7)))).toUInt64 &&& Int64.toUInt64 63)).toInt64) &&& 255))), (8, .long s0), (0, .ref a0), (1, .long y1), (3, .long y3), (5, .long y5)]) 6 (am_dt kX10_feed 58 rfl) rfl rfl (by decide) rfl ?_
          refine Ev.goto (tgt := 8) (am_dt kX10_feed 59 rfl) (by decide) ?_
          exact Ev.sub [3, 4, 5, 6, 0] rfl k
        · have k := k.2 c
          exact Ev.sub [2, 3, 4, 5, 6, 0] rfl k
set_option maxRecDepth 20000 in
set_option maxHeartbeats 2000000 in
theorem bX10_feed_93 {w : am_W} {d : Nat} {h : am_H} {Q : Option Value → am_H → Prop} {a0 : Nat} {y1 : Int64} {y3 : Int64} {y5 : Int64} {x7 : Int32} {x10 : Int32}  (k : (am_L 10 a0 h) ∧ ((vp_in (hI h a0 1) (hN h (a0 + 1))) ∧ (∀ h3 : am_H, h3 = sI h (a0 + 1) (Int32.toNatClampNeg (hI h a0 1)) x10 → (∀ h4 : am_H, h4 = sI h3 a0 1 ((hI h3 a0 1) + 1) → (Ev w (am_Z w) mX10_feed d 8 [(0, .ref a0), (1, .long y1), (3, .long y3), (5, .long y5), (7, .int (x7 + 1))] [] h4 Q))))) : Ev w (am_Z w) mX10_feed d 93 [(0, .ref a0), (1, .long y1), (3, .long y3), (5, .long y5), (7, .int x7), (10, .int x10)] [] h Q := by
  refine Ev.aload_n 0 (am_dt kX10_feed 46 rfl) rfl rfl ?_
  obtain ⟨f1, k⟩ := k
  refine Ev.getRe (ci := 10) (k := 2) (r := a0 + 1) (am_dt kX10_feed 47 rfl) (by decide) (by decide) rfl wd_542 f1.1 (am_L.r f1 0 rfl) (by omega) ?_
  refine Ev.aload_n 0 (am_dt kX10_feed 48 rfl) rfl rfl ?_
  refine Ev.getI (ci := 10) (k := 1) (am_dt kX10_feed 49 rfl) (by decide) (by decide) rfl wd_584 f1.1 ?_
  refine Ev.iload 5 (am_dt kX10_feed 50 rfl) rfl ?_
  obtain ⟨f2, k⟩ := k
  refine Ev.iast' (am_dt kX10_feed 51 rfl) (am_L.s f1 0 rfl) f2 (fun h3 eh3 => ?_)
  have k := k h3 eh3
  have f1 := am_LsI eh3 f1
  refine Ev.aload_n 0 (am_dt kX10_feed 52 rfl) rfl rfl ?_
  refine Ev.dup (am_dt kX10_feed 53 rfl) rfl ?_
  refine Ev.getI (ci := 10) (k := 1) (am_dt kX10_feed 54 rfl) (by decide) (by decide) rfl wd_584 f1.1 ?_
  refine Ev.iconst (v := 1) (am_dt kX10_feed 55 rfl) (by decide) ?_
  refine Ev.iadd (am_dt kX10_feed 56 rfl) ?_
  refine Ev.putI' (ci := 10) (k := 1) (am_dt kX10_feed 57 rfl) (by decide) (by decide) wd_584 rfl rfl rfl rfl f1.1 (fun h4 eh4 => ?_)
  have k := k h4 eh4
  have f1 := am_LsI eh4 f1
  refine Ev.iinc (v := x7 + 1) (lv' := [(7, .int (x7 + 1)), (0, .ref a0), (1, .long y1), (3, .long y3), (5, .long y5), (10, .int x10)]) 4 (am_dt kX10_feed 58 rfl) rfl rfl (by decide) rfl ?_
  refine Ev.goto (tgt := 8) (am_dt kX10_feed 59 rfl) (by decide) ?_
  exact Ev.sub [1, 2, 3, 4, 0] rfl k
set_option maxRecDepth 20000 in
set_option maxHeartbeats 2000000 in
theorem bX10_signAt_0 {w : am_W} {d : Nat} {h : am_H} {Q : Option Value → am_H → Prop} {a0 : Nat} {x1 : Int32}  (k : (am_L 10 a0 h) ∧ (((hI h a0 3) ≤ x1 → (Q (some (.int 0)) h)) ∧ (¬ (hI h a0 3) ≤ x1 → ((vp_in x1 (hN h (a0 + 1))) ∧ (Q (some (.int (hI h (a0 + 1) (Int32.toNatClampNeg x1)))) h))))) : EvM w mX10_signAt d [.ref a0, .int x1] h Q := by
  show Ev w (am_Z w) mX10_signAt d 0 [(0, .ref a0), (1, .int x1)] [] h Q
  refine Ev.iload_n 1 (am_dt kX10_signAt 0 rfl) rfl rfl ?_
  refine Ev.aload_n 0 (am_dt kX10_signAt 1 rfl) rfl rfl ?_
  obtain ⟨f1, k⟩ := k
  refine Ev.getI (ci := 10) (k := 3) (am_dt kX10_signAt 2 rfl) (by decide) (by decide) rfl wd_586 f1.1 ?_
  refine Ev.icmp_ge (tgt := 17) (am_dt kX10_signAt 3 rfl) (by decide) (fun c => ?_) (fun c => ?_)
  · have k := k.1 c
    refine Ev.iconst (v := 0) (am_dt kX10_signAt 9 rfl) (by decide) ?_
    exact Ev.iret .int (am_dt kX10_signAt 10 rfl) rfl rfl k
  · have k := k.2 c
    refine Ev.aload_n 0 (am_dt kX10_signAt 4 rfl) rfl rfl ?_
    refine Ev.getRe (ci := 10) (k := 2) (r := a0 + 1) (am_dt kX10_signAt 5 rfl) (by decide) (by decide) rfl wd_542 f1.1 (am_L.r f1 0 rfl) (by omega) ?_
    refine Ev.iload_n 1 (am_dt kX10_signAt 6 rfl) rfl rfl ?_
    obtain ⟨f2, k⟩ := k
    refine Ev.iald (am_dt kX10_signAt 7 rfl) (am_L.s f1 0 rfl) f2 ?_
    refine Ev.goto (tgt := 18) (am_dt kX10_signAt 8 rfl) (by decide) ?_
    exact Ev.iret .int (am_dt kX10_signAt 10 rfl) rfl rfl k
set_option maxRecDepth 20000 in
set_option maxHeartbeats 2000000 in
theorem bX10_nextToken_0 {w : am_W} {d : Nat} {h : am_H} {Q : Option Value → am_H → Prop} {a0 : Nat}  (k : (am_L 10 a0 h) ∧ (((hI h a0 3) ≤ (hI h a0 4) → (Ev w (am_Z w) mX10_nextToken (d + 1) 52 [(0, .ref a0)] [] h Q)) ∧ (¬ (hI h a0 3) ≤ (hI h a0 4) → ((vp_in (hI h a0 4) (hN h (a0 + 1))) ∧ (((hI h (a0 + 1) (Int32.toNatClampNeg (hI h a0 4))) = 32 → (∀ h3 : am_H, h3 = sI h a0 4 ((hI h a0 4) + 1) → (Ev w (am_Z w) mX10_nextToken (d + 1) 0 [(0, .ref a0)] [] h3 Q))) ∧ (¬ (hI h (a0 + 1) (Int32.toNatClampNeg (hI h a0 4))) = 32 → ((vp_in (hI h a0 4) (hN h (a0 + 1))) ∧ (((hI h (a0 + 1) (Int32.toNatClampNeg (hI h a0 4))) = 10 → (∀ h5 : am_H, h5 = sI h a0 4 ((hI h a0 4) + 1) → (Ev w (am_Z w) mX10_nextToken (d + 1) 0 [(0, .ref a0)] [] h5 Q))) ∧ (¬ (hI h (a0 + 1) (Int32.toNatClampNeg (hI h a0 4))) = 10 → (Ev w (am_Z w) mX10_nextToken (d + 1) 52 [(0, .ref a0)] [] h Q)))))))))) : EvM w mX10_nextToken (d + 1) [.ref a0] h Q := by
  show Ev w (am_Z w) mX10_nextToken (d + 1) 0 [(0, .ref a0)] [] h Q
  refine Ev.aload_n 0 (am_dt kX10_nextToken 0 rfl) rfl rfl ?_
  obtain ⟨f1, k⟩ := k
  refine Ev.getI (ci := 10) (k := 4) (am_dt kX10_nextToken 1 rfl) (by decide) (by decide) rfl wd_587 f1.1 ?_
  refine Ev.aload_n 0 (am_dt kX10_nextToken 2 rfl) rfl rfl ?_
  refine Ev.getI (ci := 10) (k := 3) (am_dt kX10_nextToken 3 rfl) (by decide) (by decide) rfl wd_586 f1.1 ?_
  refine Ev.icmp_ge (tgt := 52) (am_dt kX10_nextToken 4 rfl) (by decide) (fun c => ?_) (fun c => ?_)
  · have k := k.1 c
    exact k
  · have k := k.2 c
    refine Ev.aload_n 0 (am_dt kX10_nextToken 5 rfl) rfl rfl ?_
    refine Ev.getRe (ci := 10) (k := 2) (r := a0 + 1) (am_dt kX10_nextToken 6 rfl) (by decide) (by decide) rfl wd_542 f1.1 (am_L.r f1 0 rfl) (by omega) ?_
    refine Ev.aload_n 0 (am_dt kX10_nextToken 7 rfl) rfl rfl ?_
    refine Ev.getI (ci := 10) (k := 4) (am_dt kX10_nextToken 8 rfl) (by decide) (by decide) rfl wd_587 f1.1 ?_
    obtain ⟨f2, k⟩ := k
    refine Ev.iald (am_dt kX10_nextToken 9 rfl) (am_L.s f1 0 rfl) f2 ?_
    refine Ev.bipush (v := 32) (am_dt kX10_nextToken 10 rfl) (by decide) ?_
    refine Ev.icmp_eq (tgt := 39) (am_dt kX10_nextToken 11 rfl) (by decide) (fun c => ?_) (fun c => ?_)
    · have k := k.1 c
      refine Ev.aload_n 0 (am_dt kX10_nextToken 19 rfl) rfl rfl ?_
      refine Ev.dup (am_dt kX10_nextToken 20 rfl) rfl ?_
      refine Ev.getI (ci := 10) (k := 4) (am_dt kX10_nextToken 21 rfl) (by decide) (by decide) rfl wd_587 f1.1 ?_
      refine Ev.iconst (v := 1) (am_dt kX10_nextToken 22 rfl) (by decide) ?_
      refine Ev.iadd (am_dt kX10_nextToken 23 rfl) ?_
      refine Ev.putI' (ci := 10) (k := 4) (am_dt kX10_nextToken 24 rfl) (by decide) (by decide) wd_587 rfl rfl rfl rfl f1.1 (fun h3 eh3 => ?_)
      have k := k h3 eh3
      have f1 := am_LsI eh3 f1
      refine Ev.goto (tgt := 0) (am_dt kX10_nextToken 25 rfl) (by decide) ?_
      exact k
    · have k := k.2 c
      refine Ev.aload_n 0 (am_dt kX10_nextToken 12 rfl) rfl rfl ?_
      refine Ev.getRe (ci := 10) (k := 2) (r := a0 + 1) (am_dt kX10_nextToken 13 rfl) (by decide) (by decide) rfl wd_542 f1.1 (am_L.r f1 0 rfl) (by omega) ?_
      refine Ev.aload_n 0 (am_dt kX10_nextToken 14 rfl) rfl rfl ?_
      refine Ev.getI (ci := 10) (k := 4) (am_dt kX10_nextToken 15 rfl) (by decide) (by decide) rfl wd_587 f1.1 ?_
      obtain ⟨f4, k⟩ := k
      refine Ev.iald (am_dt kX10_nextToken 16 rfl) (am_L.s f1 0 rfl) f4 ?_
      refine Ev.bipush (v := 10) (am_dt kX10_nextToken 17 rfl) (by decide) ?_
      refine Ev.icmp_ne (tgt := 52) (am_dt kX10_nextToken 18 rfl) (by decide) (fun c => ?_) (fun c => ?_)
      · have k := k.2 c
        exact k
      · have k := k.1 c
        refine Ev.aload_n 0 (am_dt kX10_nextToken 19 rfl) rfl rfl ?_
        refine Ev.dup (am_dt kX10_nextToken 20 rfl) rfl ?_
        refine Ev.getI (ci := 10) (k := 4) (am_dt kX10_nextToken 21 rfl) (by decide) (by decide) rfl wd_587 f1.1 ?_
        refine Ev.iconst (v := 1) (am_dt kX10_nextToken 22 rfl) (by decide) ?_
        refine Ev.iadd (am_dt kX10_nextToken 23 rfl) ?_
        refine Ev.putI' (ci := 10) (k := 4) (am_dt kX10_nextToken 24 rfl) (by decide) (by decide) wd_587 rfl rfl rfl rfl f1.1 (fun h5 eh5 => ?_)
        have k := k h5 eh5
        have f1 := am_LsI eh5 f1
        refine Ev.goto (tgt := 0) (am_dt kX10_nextToken 25 rfl) (by decide) ?_
        exact k
set_option maxRecDepth 20000 in
set_option maxHeartbeats 2000000 in
theorem bX10_nextToken_52 {w : am_W} {d : Nat} {h : am_H} {Q : Option Value → am_H → Prop} {a0 : Nat}  (k : (am_L 10 a0 h) ∧ (∀ h2 : am_H, h2 = sI h a0 5 (hI h a0 4) → (∀ h3 : am_H, h3 = sJ h2 a0 7 0 → (∀ h4 : am_H, h4 = sI h3 a0 8 0 → (((hI h4 a0 4) = (hI h4 a0 3) → (∀ h5 : am_H, h5 = sI h4 a0 6 0 → (Q none h5))) ∧ (¬ (hI h4 a0 4) = (hI h4 a0 3) → ((vp_in (hI h4 a0 4) (hN h4 (a0 + 1))) ∧ (((hI h4 (a0 + 1) (Int32.toNatClampNeg (hI h4 a0 4))) < 97 → (((hI h4 (a0 + 1) (Int32.toNatClampNeg (hI h4 a0 4))) < 48 → (Ev w (am_Z w) mX10_nextToken (d + 1) 322 [(0, .ref a0), (1, .int (hI h4 (a0 + 1) (Int32.toNatClampNeg (hI h4 a0 4))))] [] h4 Q)) ∧ (¬ (hI h4 (a0 + 1) (Int32.toNatClampNeg (hI h4 a0 4))) < 48 → ((57 < (hI h4 (a0 + 1) (Int32.toNatClampNeg (hI h4 a0 4))) → (Ev w (am_Z w) mX10_nextToken (d + 1) 322 [(0, .ref a0), (1, .int (hI h4 (a0 + 1) (Int32.toNatClampNeg (hI h4 a0 4))))] [] h4 Q)) ∧ (¬ 57 < (hI h4 (a0 + 1) (Int32.toNatClampNeg (hI h4 a0 4))) → (Ev w (am_Z w) mX10_nextToken (d + 1) 224 [(0, .ref a0)] [] h4 Q)))))) ∧ (¬ (hI h4 (a0 + 1) (Int32.toNatClampNeg (hI h4 a0 4))) < 97 → ((122 < (hI h4 (a0 + 1) (Int32.toNatClampNeg (hI h4 a0 4))) → (((hI h4 (a0 + 1) (Int32.toNatClampNeg (hI h4 a0 4))) < 48 → (Ev w (am_Z w) mX10_nextToken (d + 1) 322 [(0, .ref a0), (1, .int (hI h4 (a0 + 1) (Int32.toNatClampNeg (hI h4 a0 4))))] [] h4 Q)) ∧ (¬ (hI h4 (a0 + 1) (Int32.toNatClampNeg (hI h4 a0 4))) < 48 → ((57 < (hI h4 (a0 + 1) (Int32.toNatClampNeg (hI h4 a0 4))) → (Ev w (am_Z w) mX10_nextToken (d + 1) 322 [(0, .ref a0), (1, .int (hI h4 (a0 + 1) (Int32.toNatClampNeg (hI h4 a0 4))))] [] h4 Q)) ∧ (¬ 57 < (hI h4 (a0 + 1) (Int32.toNatClampNeg (hI h4 a0 4))) → (Ev w (am_Z w) mX10_nextToken (d + 1) 224 [(0, .ref a0)] [] h4 Q)))))) ∧ (¬ 122 < (hI h4 (a0 + 1) (Int32.toNatClampNeg (hI h4 a0 4))) → (Ev w (am_Z w) mX10_nextToken (d + 1) 109 [(0, .ref a0)] [] h4 Q)))))))))))) : Ev w (am_Z w) mX10_nextToken (d + 1) 52 [(0, .ref a0)] [] h Q := by
  refine Ev.aload_n 0 (am_dt kX10_nextToken 26 rfl) rfl rfl ?_
  refine Ev.aload_n 0 (am_dt kX10_nextToken 27 rfl) rfl rfl ?_
  obtain ⟨f1, k⟩ := k
  refine Ev.getI (ci := 10) (k := 4) (am_dt kX10_nextToken 28 rfl) (by decide) (by decide) rfl wd_587 f1.1 ?_
  refine Ev.putI' (ci := 10) (k := 5) (am_dt kX10_nextToken 29 rfl) (by decide) (by decide) wd_588 rfl rfl rfl rfl f1.1 (fun h2 eh2 => ?_)
  have k := k h2 eh2
  have f1 := am_LsI eh2 f1
  refine Ev.aload_n 0 (am_dt kX10_nextToken 30 rfl) rfl rfl ?_
  refine Ev.lconst (v := 0) (am_dt kX10_nextToken 31 rfl) (by decide) ?_
  refine Ev.putJ' (ci := 10) (k := 7) (am_dt kX10_nextToken 32 rfl) (by decide) (by decide) wd_589 rfl rfl rfl rfl f1.1 (fun h3 eh3 => ?_)
  have k := k h3 eh3
  have f1 := am_LsJ eh3 f1
  refine Ev.aload_n 0 (am_dt kX10_nextToken 33 rfl) rfl rfl ?_
  refine Ev.iconst (v := 0) (am_dt kX10_nextToken 34 rfl) (by decide) ?_
  refine Ev.putI' (ci := 10) (k := 8) (am_dt kX10_nextToken 35 rfl) (by decide) (by decide) wd_590 rfl rfl rfl rfl f1.1 (fun h4 eh4 => ?_)
  have k := k h4 eh4
  have f1 := am_LsI eh4 f1
  refine Ev.aload_n 0 (am_dt kX10_nextToken 36 rfl) rfl rfl ?_
  refine Ev.getI (ci := 10) (k := 4) (am_dt kX10_nextToken 37 rfl) (by decide) (by decide) rfl wd_587 f1.1 ?_
  refine Ev.aload_n 0 (am_dt kX10_nextToken 38 rfl) rfl rfl ?_
  refine Ev.getI (ci := 10) (k := 3) (am_dt kX10_nextToken 39 rfl) (by decide) (by decide) rfl wd_586 f1.1 ?_
  refine Ev.icmp_ne (tgt := 87) (am_dt kX10_nextToken 40 rfl) (by decide) (fun c => ?_) (fun c => ?_)
  · have k := k.2 c
    refine Ev.aload_n 0 (am_dt kX10_nextToken 45 rfl) rfl rfl ?_
    refine Ev.getRe (ci := 10) (k := 2) (r := a0 + 1) (am_dt kX10_nextToken 46 rfl) (by decide) (by decide) rfl wd_542 f1.1 (am_L.r f1 0 rfl) (by omega) ?_
    refine Ev.aload_n 0 (am_dt kX10_nextToken 47 rfl) rfl rfl ?_
    refine Ev.getI (ci := 10) (k := 4) (am_dt kX10_nextToken 48 rfl) (by decide) (by decide) rfl wd_587 f1.1 ?_
    obtain ⟨f6, k⟩ := k
    refine Ev.iald (am_dt kX10_nextToken 49 rfl) (am_L.s f1 0 rfl) f6 ?_
    refine Ev.istore_n (lv' := [(1, .int (hI h4 (a0 + 1) (Int32.toNatClampNeg (hI h4 a0 4)))), (0, .ref a0)]) (am_dt kX10_nextToken 50 rfl) rfl (by decide) rfl ?_
    refine Ev.iload_n 0 (am_dt kX10_nextToken 51 rfl) rfl rfl ?_
    refine Ev.bipush (v := 97) (am_dt kX10_nextToken 52 rfl) (by decide) ?_
    refine Ev.icmp_lt (tgt := 212) (am_dt kX10_nextToken 53 rfl) (by decide) (fun c => ?_) (fun c => ?_)
    · have k := k.1 c
      refine Ev.iload_n 0 (am_dt kX10_nextToken 110 rfl) rfl rfl ?_
      refine Ev.bipush (v := 48) (am_dt kX10_nextToken 111 rfl) (by decide) ?_
      refine Ev.icmp_lt (tgt := 322) (am_dt kX10_nextToken 112 rfl) (by decide) (fun c => ?_) (fun c => ?_)
      · have k := k.1 c
        exact Ev.sub [1, 0] rfl k
      · have k := k.2 c
        refine Ev.iload_n 0 (am_dt kX10_nextToken 113 rfl) rfl rfl ?_
        refine Ev.bipush (v := 57) (am_dt kX10_nextToken 114 rfl) (by decide) ?_
        refine Ev.icmp_gt (tgt := 322) (am_dt kX10_nextToken 115 rfl) (by decide) (fun c => ?_) (fun c => ?_)
        · have k := k.1 c
          exact Ev.sub [1, 0] rfl k
        · have k := k.2 c
          exact Ev.sub [1] rfl k
    · have k := k.2 c
      refine Ev.iload_n 0 (am_dt kX10_nextToken 54 rfl) rfl rfl ?_
      refine Ev.bipush (v := 122) (am_dt kX10_nextToken 55 rfl) (by decide) ?_
      refine Ev.icmp_gt (tgt := 212) (am_dt kX10_nextToken 56 rfl) (by decide) (fun c => ?_) (fun c => ?_)
      · have k := k.1 c
        refine Ev.iload_n 0 (am_dt kX10_nextToken 110 rfl) rfl rfl ?_
        refine Ev.bipush (v := 48) (am_dt kX10_nextToken 111 rfl) (by decide) ?_
        refine Ev.icmp_lt (tgt := 322) (am_dt kX10_nextToken 112 rfl) (by decide) (fun c => ?_) (fun c => ?_)
        · have k := k.1 c
          exact Ev.sub [1, 0] rfl k
        · have k := k.2 c
          refine Ev.iload_n 0 (am_dt kX10_nextToken 113 rfl) rfl rfl ?_
          refine Ev.bipush (v := 57) (am_dt kX10_nextToken 114 rfl) (by decide) ?_
          refine Ev.icmp_gt (tgt := 322) (am_dt kX10_nextToken 115 rfl) (by decide) (fun c => ?_) (fun c => ?_)
          · have k := k.1 c
            exact Ev.sub [1, 0] rfl k
          · have k := k.2 c
            exact Ev.sub [1] rfl k
      · have k := k.2 c
        exact Ev.sub [1] rfl k
  · have k := k.1 c
    refine Ev.aload_n 0 (am_dt kX10_nextToken 41 rfl) rfl rfl ?_
    refine Ev.iconst (v := 0) (am_dt kX10_nextToken 42 rfl) (by decide) ?_
    refine Ev.putI' (ci := 10) (k := 6) (am_dt kX10_nextToken 43 rfl) (by decide) (by decide) wd_591 rfl rfl rfl rfl f1.1 (fun h5 eh5 => ?_)
    have k := k h5 eh5
    have f1 := am_LsI eh5 f1
    exact Ev.vret (am_dt kX10_nextToken 44 rfl) rfl k
set_option maxRecDepth 20000 in
set_option maxHeartbeats 2000000 in
theorem bX10_nextToken_322 {w : am_W} {d : Nat} {h : am_H} {Q : Option Value → am_H → Prop} {a0 : Nat} {x1 : Int32}  (k : (am_L 10 a0 h) ∧ (∀ h2 : am_H, h2 = sI h a0 4 ((hI h a0 4) + 1) → ((x1 < 40 → (Ev w (am_Z w) mX10_nextToken (d + 1) 345 [(1, .int x1)] [.ref a0] h2 Q)) ∧ (¬ x1 < 40 → ((x1 ≤ 43 → (∀ h3 : am_H, h3 = sI h2 a0 6 3 → (Q none h3))) ∧ (¬ x1 ≤ 43 → (Ev w (am_Z w) mX10_nextToken (d + 1) 345 [(1, .int x1)] [.ref a0] h2 Q))))))) : Ev w (am_Z w) mX10_nextToken (d + 1) 322 [(0, .ref a0), (1, .int x1)] [] h Q := by
  refine Ev.aload_n 0 (am_dt kX10_nextToken 168 rfl) rfl rfl ?_
  refine Ev.dup (am_dt kX10_nextToken 169 rfl) rfl ?_
  obtain ⟨f1, k⟩ := k
  refine Ev.getI (ci := 10) (k := 4) (am_dt kX10_nextToken 170 rfl) (by decide) (by decide) rfl wd_587 f1.1 ?_
  refine Ev.iconst (v := 1) (am_dt kX10_nextToken 171 rfl) (by decide) ?_
  refine Ev.iadd (am_dt kX10_nextToken 172 rfl) ?_
  refine Ev.putI' (ci := 10) (k := 4) (am_dt kX10_nextToken 173 rfl) (by decide) (by decide) wd_587 rfl rfl rfl rfl f1.1 (fun h2 eh2 => ?_)
  have k := k h2 eh2
  have f1 := am_LsI eh2 f1
  refine Ev.aload_n 0 (am_dt kX10_nextToken 174 rfl) rfl rfl ?_
  refine Ev.iload_n 1 (am_dt kX10_nextToken 175 rfl) rfl rfl ?_
  refine Ev.bipush (v := 40) (am_dt kX10_nextToken 176 rfl) (by decide) ?_
  refine Ev.icmp_lt (tgt := 345) (am_dt kX10_nextToken 177 rfl) (by decide) (fun c => ?_) (fun c => ?_)
  · have k := k.1 c
    exact Ev.sub [1] rfl k
  · have k := k.2 c
    refine Ev.iload_n 1 (am_dt kX10_nextToken 178 rfl) rfl rfl ?_
    refine Ev.bipush (v := 43) (am_dt kX10_nextToken 179 rfl) (by decide) ?_
    refine Ev.icmp_le (tgt := 363) (am_dt kX10_nextToken 180 rfl) (by decide) (fun c => ?_) (fun c => ?_)
    · have k := k.1 c
      refine Ev.iconst (v := 3) (am_dt kX10_nextToken 190 rfl) (by decide) ?_
      refine Ev.goto (tgt := 368) (am_dt kX10_nextToken 191 rfl) (by decide) ?_
      refine Ev.putI' (ci := 10) (k := 6) (am_dt kX10_nextToken 193 rfl) (by decide) (by decide) wd_591 rfl rfl rfl rfl f1.1 (fun h3 eh3 => ?_)
      have k := k h3 eh3
      have f1 := am_LsI eh3 f1
      exact Ev.vret (am_dt kX10_nextToken 194 rfl) rfl k
    · have k := k.2 c
      exact Ev.sub [1] rfl k
set_option maxRecDepth 20000 in
set_option maxHeartbeats 2000000 in
theorem bX10_nextToken_224 {w : am_W} {d : Nat} {h : am_H} {Q : Option Value → am_H → Prop} {a0 : Nat}  (k : (am_L 10 a0 h) ∧ (EvM w mX10_signAt d [.ref a0, .int (hI h a0 4)] h (fun r3 h2 => ∃ v4 : Int32, r3 = some (.int v4) ∧ ((v4 < 48 → (Ev w (am_Z w) mX10_nextToken (d + 1) 299 [(0, .ref a0)] [] h2 Q)) ∧ (¬ v4 < 48 → ((am_L 10 a0 h2) ∧ (EvM w mX10_signAt d [.ref a0, .int (hI h2 a0 4)] h2 (fun r7 h6 => ∃ v8 : Int32, r7 = some (.int v8) ∧ ((57 < v8 → (Ev w (am_Z w) mX10_nextToken (d + 1) 299 [(0, .ref a0)] [] h6 Q)) ∧ (¬ 57 < v8 → ((am_L 10 a0 h6) ∧ ((4 ≤ ((hI h6 a0 4) - (hI h6 a0 5)) → (∀ h10 : am_H, h10 = sI h6 a0 4 ((hI h6 a0 4) + 1) → (Ev w (am_Z w) mX10_nextToken (d + 1) 224 [(0, .ref a0)] [] h10 Q))) ∧ (¬ 4 ≤ ((hI h6 a0 4) - (hI h6 a0 5)) → (EvM w mX10_signAt d [.ref a0, .int (hI h6 a0 4)] h6 (fun r12 h11 => ∃ v13 : Int32, r12 = some (.int v13) ∧ ((am_L 10 a0 h11) ∧ (∀ h15 : am_H, h15 = sI h11 a0 8 ((((hI h6 a0 8) * 10) + v13) - 48) → (∀ h16 : am_H, h16 = sI h15 a0 4 ((hI h15 a0 4) + 1) → (Ev w (am_Z w) mX10_nextToken (d + 1) 224 [(0, .ref a0)] [] h16 Q))))))))))))))))))) : Ev w (am_Z w) mX10_nextToken (d + 1) 224 [(0, .ref a0)] [] h Q := by
  refine Ev.aload_n 0 (am_dt kX10_nextToken 116 rfl) rfl rfl ?_
  refine Ev.aload_n 0 (am_dt kX10_nextToken 117 rfl) rfl rfl ?_
  obtain ⟨f1, k⟩ := k
  refine Ev.getI (ci := 10) (k := 4) (am_dt kX10_nextToken 118 rfl) (by decide) (by decide) rfl wd_587 f1.1 ?_
  refine Ev.callV (ci := 10) (v := mX10_signAt) (As := [.int (hI h a0 4)]) (st := []) okX10_signAt wd_592 wd_593 wd_594 (am_dt kX10_nextToken 119 rfl) (by decide) rfl rfl (Nat.le_of_ble_eq_true rfl) (Nat.le_of_ble_eq_true rfl) f1.1 ?_
  refine EvM.mono k (fun r3 h2 k => ?_)
  obtain ⟨v4, rfl, k⟩ := k
  show Ev w _ _ _ 232 _ [.int v4] _ _
  refine Ev.bipush (v := 48) (am_dt kX10_nextToken 120 rfl) (by decide) ?_
  refine Ev.icmp_lt (tgt := 299) (am_dt kX10_nextToken 121 rfl) (by decide) (fun c => ?_) (fun c => ?_)
  · have k := k.1 c
    exact k
  · have k := k.2 c
    refine Ev.aload_n 0 (am_dt kX10_nextToken 122 rfl) rfl rfl ?_
    refine Ev.aload_n 0 (am_dt kX10_nextToken 123 rfl) rfl rfl ?_
    obtain ⟨f5, k⟩ := k
    refine Ev.getI (ci := 10) (k := 4) (am_dt kX10_nextToken 124 rfl) (by decide) (by decide) rfl wd_587 f5.1 ?_
    refine Ev.callV (ci := 10) (v := mX10_signAt) (As := [.int (hI h2 a0 4)]) (st := []) okX10_signAt wd_592 wd_593 wd_594 (am_dt kX10_nextToken 125 rfl) (by decide) rfl rfl (Nat.le_of_ble_eq_true rfl) (Nat.le_of_ble_eq_true rfl) f5.1 ?_
    refine EvM.mono k (fun r7 h6 k => ?_)
    obtain ⟨v8, rfl, k⟩ := k
    show Ev w _ _ _ 245 _ [.int v8] _ _
    refine Ev.bipush (v := 57) (am_dt kX10_nextToken 126 rfl) (by decide) ?_
    refine Ev.icmp_gt (tgt := 299) (am_dt kX10_nextToken 127 rfl) (by decide) (fun c => ?_) (fun c => ?_)
    · have k := k.1 c
      exact k
    · have k := k.2 c
      refine Ev.aload_n 0 (am_dt kX10_nextToken 128 rfl) rfl rfl ?_
      obtain ⟨f9, k⟩ := k
      refine Ev.getI (ci := 10) (k := 4) (am_dt kX10_nextToken 129 rfl) (by decide) (by decide) rfl wd_587 f9.1 ?_
      refine Ev.aload_n 0 (am_dt kX10_nextToken 130 rfl) rfl rfl ?_
      refine Ev.getI (ci := 10) (k := 5) (am_dt kX10_nextToken 131 rfl) (by decide) (by decide) rfl wd_588 f9.1 ?_
      refine Ev.isub (am_dt kX10_nextToken 132 rfl) ?_
      refine Ev.iconst (v := 4) (am_dt kX10_nextToken 133 rfl) (by decide) ?_
      refine Ev.icmp_ge (tgt := 286) (am_dt kX10_nextToken 134 rfl) (by decide) (fun c => ?_) (fun c => ?_)
      · have k := k.1 c
        refine Ev.aload_n 0 (am_dt kX10_nextToken 148 rfl) rfl rfl ?_
        refine Ev.dup (am_dt kX10_nextToken 149 rfl) rfl ?_
        refine Ev.getI (ci := 10) (k := 4) (am_dt kX10_nextToken 150 rfl) (by decide) (by decide) rfl wd_587 f9.1 ?_
        refine Ev.iconst (v := 1) (am_dt kX10_nextToken 151 rfl) (by decide) ?_
        refine Ev.iadd (am_dt kX10_nextToken 152 rfl) ?_
        refine Ev.putI' (ci := 10) (k := 4) (am_dt kX10_nextToken 153 rfl) (by decide) (by decide) wd_587 rfl rfl rfl rfl f9.1 (fun h10 eh10 => ?_)
        have k := k h10 eh10
        have f9 := am_LsI eh10 f9
        refine Ev.goto (tgt := 224) (am_dt kX10_nextToken 154 rfl) (by decide) ?_
        exact k
      · have k := k.2 c
        refine Ev.aload_n 0 (am_dt kX10_nextToken 135 rfl) rfl rfl ?_
        refine Ev.aload_n 0 (am_dt kX10_nextToken 136 rfl) rfl rfl ?_
        refine Ev.getI (ci := 10) (k := 8) (am_dt kX10_nextToken 137 rfl) (by decide) (by decide) rfl wd_590 f9.1 ?_
        refine Ev.bipush (v := 10) (am_dt kX10_nextToken 138 rfl) (by decide) ?_
        refine Ev.imul (am_dt kX10_nextToken 139 rfl) ?_
        refine Ev.aload_n 0 (am_dt kX10_nextToken 140 rfl) rfl rfl ?_
        refine Ev.aload_n 0 (am_dt kX10_nextToken 141 rfl) rfl rfl ?_
        refine Ev.getI (ci := 10) (k := 4) (am_dt kX10_nextToken 142 rfl) (by decide) (by decide) rfl wd_587 f9.1 ?_
        refine Ev.callV (ci := 10) (v := mX10_signAt) (As := [.int (hI h6 a0 4)]) (st := [.int ((hI h6 a0 8) * 10), .ref a0]) okX10_signAt wd_592 wd_593 wd_594 (am_dt kX10_nextToken 143 rfl) (by decide) rfl rfl (Nat.le_of_ble_eq_true rfl) (Nat.le_of_ble_eq_true rfl) f9.1 ?_
        refine EvM.mono k (fun r12 h11 k => ?_)
        obtain ⟨v13, rfl, k⟩ := k
        show Ev w _ _ _ 279 _ [.int v13, .int ((hI h6 a0 8) * 10), .ref a0] _ _
        refine Ev.iadd (am_dt kX10_nextToken 144 rfl) ?_
        refine Ev.bipush (v := 48) (am_dt kX10_nextToken 145 rfl) (by decide) ?_
        refine Ev.isub (am_dt kX10_nextToken 146 rfl) ?_
        obtain ⟨f14, k⟩ := k
        refine Ev.putI' (ci := 10) (k := 8) (am_dt kX10_nextToken 147 rfl) (by decide) (by decide) wd_590 rfl rfl rfl rfl f14.1 (fun h15 eh15 => ?_)
        have k := k h15 eh15
        have f14 := am_LsI eh15 f14
        refine Ev.aload_n 0 (am_dt kX10_nextToken 148 rfl) rfl rfl ?_
        refine Ev.dup (am_dt kX10_nextToken 149 rfl) rfl ?_
        refine Ev.getI (ci := 10) (k := 4) (am_dt kX10_nextToken 150 rfl) (by decide) (by decide) rfl wd_587 f14.1 ?_
        refine Ev.iconst (v := 1) (am_dt kX10_nextToken 151 rfl) (by decide) ?_
        refine Ev.iadd (am_dt kX10_nextToken 152 rfl) ?_
        refine Ev.putI' (ci := 10) (k := 4) (am_dt kX10_nextToken 153 rfl) (by decide) (by decide) wd_587 rfl rfl rfl rfl f14.1 (fun h16 eh16 => ?_)
        have k := k h16 eh16
        have f14 := am_LsI eh16 f14
        refine Ev.goto (tgt := 224) (am_dt kX10_nextToken 154 rfl) (by decide) ?_
        exact k
set_option maxRecDepth 20000 in
set_option maxHeartbeats 2000000 in
theorem bX10_nextToken_109 {w : am_W} {d : Nat} {h : am_H} {Q : Option Value → am_H → Prop} {a0 : Nat}  (k : (am_L 10 a0 h) ∧ (EvM w mX10_signAt d [.ref a0, .int (hI h a0 4)] h (fun r3 h2 => ∃ v4 : Int32, r3 = some (.int v4) ∧ ((v4 < 97 → (Ev w (am_Z w) mX10_nextToken (d + 1) 188 [(0, .ref a0)] [] h2 Q)) ∧ (¬ v4 < 97 → ((am_L 10 a0 h2) ∧ (EvM w mX10_signAt d [.ref a0, .int (hI h2 a0 4)] h2 (fun r7 h6 => ∃ v8 : Int32, r7 = some (.int v8) ∧ ((122 < v8 → (Ev w (am_Z w) mX10_nextToken (d + 1) 188 [(0, .ref a0)] [] h6 Q)) ∧ (¬ 122 < v8 → ((am_L 10 a0 h6) ∧ ((8 ≤ ((hI h6 a0 4) - (hI h6 a0 5)) → (∀ h10 : am_H, h10 = sI h6 a0 4 ((hI h6 a0 4) + 1) → (Ev w (am_Z w) mX10_nextToken (d + 1) 109 [(0, .ref a0)] [] h10 Q))) ∧ (¬ 8 ≤ ((hI h6 a0 4) - (hI h6 a0 5)) → (EvM w mX10_signAt d [.ref a0, .int (hI h6 a0 4)] h6 (fun r12 h11 => ∃ v13 : Int32, r12 = some (.int v13) ∧ ((am_L 10 a0 h11) ∧ (∀ h15 : am_H, h15 = sJ h11 a0 7 ((((hJ h6 a0 7) * 27) + (Int32.toInt64 v13)) - 96) → (∀ h16 : am_H, h16 = sI h15 a0 4 ((hI h15 a0 4) + 1) → (Ev w (am_Z w) mX10_nextToken (d + 1) 109 [(0, .ref a0)] [] h16 Q))))))))))))))))))) : Ev w (am_Z w) mX10_nextToken (d + 1) 109 [(0, .ref a0)] [] h Q := by
  refine Ev.aload_n 0 (am_dt kX10_nextToken 57 rfl) rfl rfl ?_
  refine Ev.aload_n 0 (am_dt kX10_nextToken 58 rfl) rfl rfl ?_
  obtain ⟨f1, k⟩ := k
  refine Ev.getI (ci := 10) (k := 4) (am_dt kX10_nextToken 59 rfl) (by decide) (by decide) rfl wd_587 f1.1 ?_
  refine Ev.callV (ci := 10) (v := mX10_signAt) (As := [.int (hI h a0 4)]) (st := []) okX10_signAt wd_592 wd_593 wd_594 (am_dt kX10_nextToken 60 rfl) (by decide) rfl rfl (Nat.le_of_ble_eq_true rfl) (Nat.le_of_ble_eq_true rfl) f1.1 ?_
  refine EvM.mono k (fun r3 h2 k => ?_)
  obtain ⟨v4, rfl, k⟩ := k
  show Ev w _ _ _ 117 _ [.int v4] _ _
  refine Ev.bipush (v := 97) (am_dt kX10_nextToken 61 rfl) (by decide) ?_
  refine Ev.icmp_lt (tgt := 188) (am_dt kX10_nextToken 62 rfl) (by decide) (fun c => ?_) (fun c => ?_)
  · have k := k.1 c
    exact k
  · have k := k.2 c
    refine Ev.aload_n 0 (am_dt kX10_nextToken 63 rfl) rfl rfl ?_
    refine Ev.aload_n 0 (am_dt kX10_nextToken 64 rfl) rfl rfl ?_
    obtain ⟨f5, k⟩ := k
    refine Ev.getI (ci := 10) (k := 4) (am_dt kX10_nextToken 65 rfl) (by decide) (by decide) rfl wd_587 f5.1 ?_
    refine Ev.callV (ci := 10) (v := mX10_signAt) (As := [.int (hI h2 a0 4)]) (st := []) okX10_signAt wd_592 wd_593 wd_594 (am_dt kX10_nextToken 66 rfl) (by decide) rfl rfl (Nat.le_of_ble_eq_true rfl) (Nat.le_of_ble_eq_true rfl) f5.1 ?_
    refine EvM.mono k (fun r7 h6 k => ?_)
    obtain ⟨v8, rfl, k⟩ := k
    show Ev w _ _ _ 130 _ [.int v8] _ _
    refine Ev.bipush (v := 122) (am_dt kX10_nextToken 67 rfl) (by decide) ?_
    refine Ev.icmp_gt (tgt := 188) (am_dt kX10_nextToken 68 rfl) (by decide) (fun c => ?_) (fun c => ?_)
    · have k := k.1 c
      exact k
    · have k := k.2 c
      refine Ev.aload_n 0 (am_dt kX10_nextToken 69 rfl) rfl rfl ?_
      obtain ⟨f9, k⟩ := k
      refine Ev.getI (ci := 10) (k := 4) (am_dt kX10_nextToken 70 rfl) (by decide) (by decide) rfl wd_587 f9.1 ?_
      refine Ev.aload_n 0 (am_dt kX10_nextToken 71 rfl) rfl rfl ?_
      refine Ev.getI (ci := 10) (k := 5) (am_dt kX10_nextToken 72 rfl) (by decide) (by decide) rfl wd_588 f9.1 ?_
      refine Ev.isub (am_dt kX10_nextToken 73 rfl) ?_
      refine Ev.bipush (v := 8) (am_dt kX10_nextToken 74 rfl) (by decide) ?_
      refine Ev.icmp_ge (tgt := 175) (am_dt kX10_nextToken 75 rfl) (by decide) (fun c => ?_) (fun c => ?_)
      · have k := k.1 c
        refine Ev.aload_n 0 (am_dt kX10_nextToken 90 rfl) rfl rfl ?_
        refine Ev.dup (am_dt kX10_nextToken 91 rfl) rfl ?_
        refine Ev.getI (ci := 10) (k := 4) (am_dt kX10_nextToken 92 rfl) (by decide) (by decide) rfl wd_587 f9.1 ?_
        refine Ev.iconst (v := 1) (am_dt kX10_nextToken 93 rfl) (by decide) ?_
        refine Ev.iadd (am_dt kX10_nextToken 94 rfl) ?_
        refine Ev.putI' (ci := 10) (k := 4) (am_dt kX10_nextToken 95 rfl) (by decide) (by decide) wd_587 rfl rfl rfl rfl f9.1 (fun h10 eh10 => ?_)
        have k := k h10 eh10
        have f9 := am_LsI eh10 f9
        refine Ev.goto (tgt := 109) (am_dt kX10_nextToken 96 rfl) (by decide) ?_
        exact k
      · have k := k.2 c
        refine Ev.aload_n 0 (am_dt kX10_nextToken 76 rfl) rfl rfl ?_
        refine Ev.aload_n 0 (am_dt kX10_nextToken 77 rfl) rfl rfl ?_
        refine Ev.getJ (ci := 10) (k := 7) (am_dt kX10_nextToken 78 rfl) (by decide) (by decide) rfl wd_589 f9.1 ?_
        refine Ev.ldc2 (v := 27) (am_dt kX10_nextToken 79 rfl) wd_595 ?_
        refine Ev.lmul (am_dt kX10_nextToken 80 rfl) ?_
        refine Ev.aload_n 0 (am_dt kX10_nextToken 81 rfl) rfl rfl ?_
        refine Ev.aload_n 0 (am_dt kX10_nextToken 82 rfl) rfl rfl ?_
        refine Ev.getI (ci := 10) (k := 4) (am_dt kX10_nextToken 83 rfl) (by decide) (by decide) rfl wd_587 f9.1 ?_
        refine Ev.callV (ci := 10) (v := mX10_signAt) (As := [.int (hI h6 a0 4)]) (st := [.long ((hJ h6 a0 7) * 27), .ref a0]) okX10_signAt wd_592 wd_593 wd_594 (am_dt kX10_nextToken 84 rfl) (by decide) rfl rfl (Nat.le_of_ble_eq_true rfl) (Nat.le_of_ble_eq_true rfl) f9.1 ?_
        refine EvM.mono k (fun r12 h11 k => ?_)
        obtain ⟨v13, rfl, k⟩ := k
        show Ev w _ _ _ 166 _ [.int v13, .long ((hJ h6 a0 7) * 27), .ref a0] _ _
        refine Ev.i2l (am_dt kX10_nextToken 85 rfl) ?_
        refine Ev.ladd (am_dt kX10_nextToken 86 rfl) ?_
        refine Ev.ldc2 (v := 96) (am_dt kX10_nextToken 87 rfl) wd_596 ?_
        refine Ev.lsub (am_dt kX10_nextToken 88 rfl) ?_
        obtain ⟨f14, k⟩ := k
        refine Ev.putJ' (ci := 10) (k := 7) (am_dt kX10_nextToken 89 rfl) (by decide) (by decide) wd_589 rfl rfl rfl rfl f14.1 (fun h15 eh15 => ?_)
        have k := k h15 eh15
        have f14 := am_LsJ eh15 f14
        refine Ev.aload_n 0 (am_dt kX10_nextToken 90 rfl) rfl rfl ?_
        refine Ev.dup (am_dt kX10_nextToken 91 rfl) rfl ?_
        refine Ev.getI (ci := 10) (k := 4) (am_dt kX10_nextToken 92 rfl) (by decide) (by decide) rfl wd_587 f14.1 ?_
        refine Ev.iconst (v := 1) (am_dt kX10_nextToken 93 rfl) (by decide) ?_
        refine Ev.iadd (am_dt kX10_nextToken 94 rfl) ?_
        refine Ev.putI' (ci := 10) (k := 4) (am_dt kX10_nextToken 95 rfl) (by decide) (by decide) wd_587 rfl rfl rfl rfl f14.1 (fun h16 eh16 => ?_)
        have k := k h16 eh16
        have f14 := am_LsI eh16 f14
        refine Ev.goto (tgt := 109) (am_dt kX10_nextToken 96 rfl) (by decide) ?_
        exact k
set_option maxRecDepth 20000 in
set_option maxHeartbeats 2000000 in
theorem bX10_nextToken_345 {w : am_W} {d : Nat} {h : am_H} {Q : Option Value → am_H → Prop} {x1 : Int32} {s0 : Nat} (k : (x1 = 45 → ((am_L 10 s0 h) ∧ (∀ h2 : am_H, h2 = sI h s0 6 3 → (Q none h2)))) ∧ (¬ x1 = 45 → ((x1 < 59 → ((am_L 10 s0 h) ∧ (∀ h4 : am_H, h4 = sI h s0 6 4 → (Q none h4)))) ∧ (¬ x1 < 59 → ((61 < x1 → ((am_L 10 s0 h) ∧ (∀ h6 : am_H, h6 = sI h s0 6 4 → (Q none h6)))) ∧ (¬ 61 < x1 → ((am_L 10 s0 h) ∧ (∀ h8 : am_H, h8 = sI h s0 6 3 → (Q none h8))))))))) : Ev w (am_Z w) mX10_nextToken (d + 1) 345 [(1, .int x1)] [.ref s0] h Q := by
  refine Ev.iload_n 0 (am_dt kX10_nextToken 181 rfl) rfl rfl ?_
  refine Ev.bipush (v := 45) (am_dt kX10_nextToken 182 rfl) (by decide) ?_
  refine Ev.icmp_eq (tgt := 363) (am_dt kX10_nextToken 183 rfl) (by decide) (fun c => ?_) (fun c => ?_)
  · have k := k.1 c
    refine Ev.iconst (v := 3) (am_dt kX10_nextToken 190 rfl) (by decide) ?_
    refine Ev.goto (tgt := 368) (am_dt kX10_nextToken 191 rfl) (by decide) ?_
    obtain ⟨f1, k⟩ := k
    refine Ev.putI' (ci := 10) (k := 6) (am_dt kX10_nextToken 193 rfl) (by decide) (by decide) wd_591 rfl rfl rfl rfl f1.1 (fun h2 eh2 => ?_)
    have k := k h2 eh2
    have f1 := am_LsI eh2 f1
    exact Ev.vret (am_dt kX10_nextToken 194 rfl) rfl k
  · have k := k.2 c
    refine Ev.iload_n 0 (am_dt kX10_nextToken 184 rfl) rfl rfl ?_
    refine Ev.bipush (v := 59) (am_dt kX10_nextToken 185 rfl) (by decide) ?_
    refine Ev.icmp_lt (tgt := 367) (am_dt kX10_nextToken 186 rfl) (by decide) (fun c => ?_) (fun c => ?_)
    · have k := k.1 c
      refine Ev.iconst (v := 4) (am_dt kX10_nextToken 192 rfl) (by decide) ?_
      obtain ⟨f3, k⟩ := k
      refine Ev.putI' (ci := 10) (k := 6) (am_dt kX10_nextToken 193 rfl) (by decide) (by decide) wd_591 rfl rfl rfl rfl f3.1 (fun h4 eh4 => ?_)
      have k := k h4 eh4
      have f3 := am_LsI eh4 f3
      exact Ev.vret (am_dt kX10_nextToken 194 rfl) rfl k
    · have k := k.2 c
      refine Ev.iload_n 0 (am_dt kX10_nextToken 187 rfl) rfl rfl ?_
      refine Ev.bipush (v := 61) (am_dt kX10_nextToken 188 rfl) (by decide) ?_
      refine Ev.icmp_gt (tgt := 367) (am_dt kX10_nextToken 189 rfl) (by decide) (fun c => ?_) (fun c => ?_)
      · have k := k.1 c
        refine Ev.iconst (v := 4) (am_dt kX10_nextToken 192 rfl) (by decide) ?_
        obtain ⟨f5, k⟩ := k
        refine Ev.putI' (ci := 10) (k := 6) (am_dt kX10_nextToken 193 rfl) (by decide) (by decide) wd_591 rfl rfl rfl rfl f5.1 (fun h6 eh6 => ?_)
        have k := k h6 eh6
        have f5 := am_LsI eh6 f5
        exact Ev.vret (am_dt kX10_nextToken 194 rfl) rfl k
      · have k := k.2 c
        refine Ev.iconst (v := 3) (am_dt kX10_nextToken 190 rfl) (by decide) ?_
        refine Ev.goto (tgt := 368) (am_dt kX10_nextToken 191 rfl) (by decide) ?_
        obtain ⟨f7, k⟩ := k
        refine Ev.putI' (ci := 10) (k := 6) (am_dt kX10_nextToken 193 rfl) (by decide) (by decide) wd_591 rfl rfl rfl rfl f7.1 (fun h8 eh8 => ?_)
        have k := k h8 eh8
        have f7 := am_LsI eh8 f7
        exact Ev.vret (am_dt kX10_nextToken 194 rfl) rfl k
set_option maxRecDepth 20000 in
set_option maxHeartbeats 2000000 in
theorem bX10_nextToken_299 {w : am_W} {d : Nat} {h : am_H} {Q : Option Value → am_H → Prop} {a0 : Nat}  (k : (am_L 10 a0 h) ∧ ((((hI h a0 4) - (hI h a0 5)) ≤ 4 → (∀ h2 : am_H, h2 = sI h a0 6 2 → (Q none h2))) ∧ (¬ ((hI h a0 4) - (hI h a0 5)) ≤ 4 → (∀ h3 : am_H, h3 = sI h a0 6 4 → (Q none h3))))) : Ev w (am_Z w) mX10_nextToken (d + 1) 299 [(0, .ref a0)] [] h Q := by
  refine Ev.aload_n 0 (am_dt kX10_nextToken 155 rfl) rfl rfl ?_
  refine Ev.aload_n 0 (am_dt kX10_nextToken 156 rfl) rfl rfl ?_
  obtain ⟨f1, k⟩ := k
  refine Ev.getI (ci := 10) (k := 4) (am_dt kX10_nextToken 157 rfl) (by decide) (by decide) rfl wd_587 f1.1 ?_
  refine Ev.aload_n 0 (am_dt kX10_nextToken 158 rfl) rfl rfl ?_
  refine Ev.getI (ci := 10) (k := 5) (am_dt kX10_nextToken 159 rfl) (by decide) (by decide) rfl wd_588 f1.1 ?_
  refine Ev.isub (am_dt kX10_nextToken 160 rfl) ?_
  refine Ev.iconst (v := 4) (am_dt kX10_nextToken 161 rfl) (by decide) ?_
  refine Ev.icmp_le (tgt := 317) (am_dt kX10_nextToken 162 rfl) (by decide) (fun c => ?_) (fun c => ?_)
  · have k := k.1 c
    refine Ev.iconst (v := 2) (am_dt kX10_nextToken 165 rfl) (by decide) ?_
    refine Ev.putI' (ci := 10) (k := 6) (am_dt kX10_nextToken 166 rfl) (by decide) (by decide) wd_591 rfl rfl rfl rfl f1.1 (fun h2 eh2 => ?_)
    have k := k h2 eh2
    have f1 := am_LsI eh2 f1
    exact Ev.vret (am_dt kX10_nextToken 167 rfl) rfl k
  · have k := k.2 c
    refine Ev.iconst (v := 4) (am_dt kX10_nextToken 163 rfl) (by decide) ?_
    refine Ev.goto (tgt := 318) (am_dt kX10_nextToken 164 rfl) (by decide) ?_
    refine Ev.putI' (ci := 10) (k := 6) (am_dt kX10_nextToken 166 rfl) (by decide) (by decide) wd_591 rfl rfl rfl rfl f1.1 (fun h3 eh3 => ?_)
    have k := k h3 eh3
    have f1 := am_LsI eh3 f1
    exact Ev.vret (am_dt kX10_nextToken 167 rfl) rfl k
set_option maxRecDepth 20000 in
set_option maxHeartbeats 2000000 in
theorem bX10_nextToken_188 {w : am_W} {d : Nat} {h : am_H} {Q : Option Value → am_H → Prop} {a0 : Nat}  (k : (am_L 10 a0 h) ∧ ((((hI h a0 4) - (hI h a0 5)) ≤ 8 → (∀ h2 : am_H, h2 = sI h a0 6 1 → (Q none h2))) ∧ (¬ ((hI h a0 4) - (hI h a0 5)) ≤ 8 → (∀ h3 : am_H, h3 = sI h a0 6 4 → (Q none h3))))) : Ev w (am_Z w) mX10_nextToken (d + 1) 188 [(0, .ref a0)] [] h Q := by
  refine Ev.aload_n 0 (am_dt kX10_nextToken 97 rfl) rfl rfl ?_
  refine Ev.aload_n 0 (am_dt kX10_nextToken 98 rfl) rfl rfl ?_
  obtain ⟨f1, k⟩ := k
  refine Ev.getI (ci := 10) (k := 4) (am_dt kX10_nextToken 99 rfl) (by decide) (by decide) rfl wd_587 f1.1 ?_
  refine Ev.aload_n 0 (am_dt kX10_nextToken 100 rfl) rfl rfl ?_
  refine Ev.getI (ci := 10) (k := 5) (am_dt kX10_nextToken 101 rfl) (by decide) (by decide) rfl wd_588 f1.1 ?_
  refine Ev.isub (am_dt kX10_nextToken 102 rfl) ?_
  refine Ev.bipush (v := 8) (am_dt kX10_nextToken 103 rfl) (by decide) ?_
  refine Ev.icmp_le (tgt := 207) (am_dt kX10_nextToken 104 rfl) (by decide) (fun c => ?_) (fun c => ?_)
  · have k := k.1 c
    refine Ev.iconst (v := 1) (am_dt kX10_nextToken 107 rfl) (by decide) ?_
    refine Ev.putI' (ci := 10) (k := 6) (am_dt kX10_nextToken 108 rfl) (by decide) (by decide) wd_591 rfl rfl rfl rfl f1.1 (fun h2 eh2 => ?_)
    have k := k h2 eh2
    have f1 := am_LsI eh2 f1
    exact Ev.vret (am_dt kX10_nextToken 109 rfl) rfl k
  · have k := k.2 c
    refine Ev.iconst (v := 4) (am_dt kX10_nextToken 105 rfl) (by decide) ?_
    refine Ev.goto (tgt := 208) (am_dt kX10_nextToken 106 rfl) (by decide) ?_
    refine Ev.putI' (ci := 10) (k := 6) (am_dt kX10_nextToken 108 rfl) (by decide) (by decide) wd_591 rfl rfl rfl rfl f1.1 (fun h3 eh3 => ?_)
    have k := k h3 eh3
    have f1 := am_LsI eh3 f1
    exact Ev.vret (am_dt kX10_nextToken 109 rfl) rfl k
set_option maxRecDepth 20000 in
set_option maxHeartbeats 2000000 in
theorem bX10_isWord_0 {w : am_W} {d : Nat} {h : am_H} {Q : Option Value → am_H → Prop} {a0 : Nat} {y1 : Int64}  (k : (am_L 10 a0 h) ∧ (((hI h a0 6) = 1 → (((hJ h a0 7) = y1 → (Q (some (.int 1)) h)) ∧ (¬ (hJ h a0 7) = y1 → (Q (some (.int 0)) h)))) ∧ (¬ (hI h a0 6) = 1 → (Q (some (.int 0)) h)))) : EvM w mX10_isWord d [.ref a0, .long y1] h Q := by
  show Ev w (am_Z w) mX10_isWord d 0 [(0, .ref a0), (1, .long y1)] [] h Q
  refine Ev.aload_n 0 (am_dt kX10_isWord 0 rfl) rfl rfl ?_
  obtain ⟨f1, k⟩ := k
  refine Ev.getI (ci := 10) (k := 6) (am_dt kX10_isWord 1 rfl) (by decide) (by decide) rfl wd_591 f1.1 ?_
  refine Ev.iconst (v := 1) (am_dt kX10_isWord 2 rfl) (by decide) ?_
  refine Ev.icmp_ne (tgt := 21) (am_dt kX10_isWord 3 rfl) (by decide) (fun c => ?_) (fun c => ?_)
  · have k := k.2 c
    refine Ev.iconst (v := 0) (am_dt kX10_isWord 11 rfl) (by decide) ?_
    exact Ev.iret .boolean (am_dt kX10_isWord 12 rfl) rfl rfl k
  · have k := k.1 c
    refine Ev.aload_n 0 (am_dt kX10_isWord 4 rfl) rfl rfl ?_
    refine Ev.getJ (ci := 10) (k := 7) (am_dt kX10_isWord 5 rfl) (by decide) (by decide) rfl wd_589 f1.1 ?_
    refine Ev.lload_n 1 (am_dt kX10_isWord 6 rfl) rfl rfl ?_
    refine Ev.lcmp (am_dt kX10_isWord 7 rfl) ?_
    refine Ev.if_ne (tgt := 21) (am_dt kX10_isWord 8 rfl) (by decide) (fun c => ?_) (fun c => ?_)
    · have k := k.2 (mt am_lc.mpr c)
      refine Ev.iconst (v := 0) (am_dt kX10_isWord 11 rfl) (by decide) ?_
      exact Ev.iret .boolean (am_dt kX10_isWord 12 rfl) rfl rfl k
    · have k := k.1 (am_lc.mp c)
      refine Ev.iconst (v := 1) (am_dt kX10_isWord 9 rfl) (by decide) ?_
      refine Ev.goto (tgt := 22) (am_dt kX10_isWord 10 rfl) (by decide) ?_
      exact Ev.iret .boolean (am_dt kX10_isWord 12 rfl) rfl rfl k
set_option maxRecDepth 20000 in
set_option maxHeartbeats 2000000 in
theorem bX10_isSign_0 {w : am_W} {d : Nat} {h : am_H} {Q : Option Value → am_H → Prop} {a0 : Nat} {x1 : Int32}  (k : (am_L 10 a0 h) ∧ (((hI h a0 6) = 3 → ((vp_in (hI h a0 5) (hN h (a0 + 1))) ∧ (((hI h (a0 + 1) (Int32.toNatClampNeg (hI h a0 5))) = x1 → (Q (some (.int 1)) h)) ∧ (¬ (hI h (a0 + 1) (Int32.toNatClampNeg (hI h a0 5))) = x1 → (Q (some (.int 0)) h))))) ∧ (¬ (hI h a0 6) = 3 → (Q (some (.int 0)) h)))) : EvM w mX10_isSign d [.ref a0, .int x1] h Q := by
  show Ev w (am_Z w) mX10_isSign d 0 [(0, .ref a0), (1, .int x1)] [] h Q
  refine Ev.aload_n 0 (am_dt kX10_isSign 0 rfl) rfl rfl ?_
  obtain ⟨f1, k⟩ := k
  refine Ev.getI (ci := 10) (k := 6) (am_dt kX10_isSign 1 rfl) (by decide) (by decide) rfl wd_591 f1.1 ?_
  refine Ev.iconst (v := 3) (am_dt kX10_isSign 2 rfl) (by decide) ?_
  refine Ev.icmp_ne (tgt := 25) (am_dt kX10_isSign 3 rfl) (by decide) (fun c => ?_) (fun c => ?_)
  · have k := k.2 c
    refine Ev.iconst (v := 0) (am_dt kX10_isSign 13 rfl) (by decide) ?_
    exact Ev.iret .boolean (am_dt kX10_isSign 14 rfl) rfl rfl k
  · have k := k.1 c
    refine Ev.aload_n 0 (am_dt kX10_isSign 4 rfl) rfl rfl ?_
    refine Ev.getRe (ci := 10) (k := 2) (r := a0 + 1) (am_dt kX10_isSign 5 rfl) (by decide) (by decide) rfl wd_542 f1.1 (am_L.r f1 0 rfl) (by omega) ?_
    refine Ev.aload_n 0 (am_dt kX10_isSign 6 rfl) rfl rfl ?_
    refine Ev.getI (ci := 10) (k := 5) (am_dt kX10_isSign 7 rfl) (by decide) (by decide) rfl wd_588 f1.1 ?_
    obtain ⟨f2, k⟩ := k
    refine Ev.iald (am_dt kX10_isSign 8 rfl) (am_L.s f1 0 rfl) f2 ?_
    refine Ev.iload_n 1 (am_dt kX10_isSign 9 rfl) rfl rfl ?_
    refine Ev.icmp_ne (tgt := 25) (am_dt kX10_isSign 10 rfl) (by decide) (fun c => ?_) (fun c => ?_)
    · have k := k.2 c
      refine Ev.iconst (v := 0) (am_dt kX10_isSign 13 rfl) (by decide) ?_
      exact Ev.iret .boolean (am_dt kX10_isSign 14 rfl) rfl rfl k
    · have k := k.1 c
      refine Ev.iconst (v := 1) (am_dt kX10_isSign 11 rfl) (by decide) ?_
      refine Ev.goto (tgt := 26) (am_dt kX10_isSign 12 rfl) (by decide) ?_
      exact Ev.iret .boolean (am_dt kX10_isSign 14 rfl) rfl rfl k
set_option maxRecDepth 20000 in
set_option maxHeartbeats 2000000 in
theorem bX10_fails_0 {w : am_W} {d : Nat} {h : am_H} {Q : Option Value → am_H → Prop} {a0 : Nat} {x1 : Int32}  (k : (am_L 10 a0 h) ∧ (∀ h2 : am_H, h2 = sI h a0 9 (x1 + (16 * (hI h a0 5))) → (Q (some (.int 0)) h2))) : EvM w mX10_fails d [.ref a0, .int x1] h Q := by
  show Ev w (am_Z w) mX10_fails d 0 [(0, .ref a0), (1, .int x1)] [] h Q
  refine Ev.aload_n 0 (am_dt kX10_fails 0 rfl) rfl rfl ?_
  refine Ev.iload_n 1 (am_dt kX10_fails 1 rfl) rfl rfl ?_
  refine Ev.bipush (v := 16) (am_dt kX10_fails 2 rfl) (by decide) ?_
  refine Ev.aload_n 0 (am_dt kX10_fails 3 rfl) rfl rfl ?_
  obtain ⟨f1, k⟩ := k
  refine Ev.getI (ci := 10) (k := 5) (am_dt kX10_fails 4 rfl) (by decide) (by decide) rfl wd_588 f1.1 ?_
  refine Ev.imul (am_dt kX10_fails 5 rfl) ?_
  refine Ev.iadd (am_dt kX10_fails 6 rfl) ?_
  refine Ev.putI' (ci := 10) (k := 9) (am_dt kX10_fails 7 rfl) (by decide) (by decide) wd_597 rfl rfl rfl rfl f1.1 (fun h2 eh2 => ?_)
  have k := k h2 eh2
  have f1 := am_LsI eh2 f1
  refine Ev.iconst (v := 0) (am_dt kX10_fails 8 rfl) (by decide) ?_
  exact Ev.iret .boolean (am_dt kX10_fails 9 rfl) rfl rfl k
set_option maxRecDepth 20000 in
set_option maxHeartbeats 2000000 in
theorem bX10_starts0_0 {w : am_W} {d : Nat} {h : am_H} {Q : Option Value → am_H → Prop} {a0 : Nat} {x1 : Int32}  (k : (am_L 10 a0 h) ∧ ((vp_in ((10 * x1) + 0) (hN h (a0 + 2))) ∧ (∀ h3 : am_H, h3 = sI h (a0 + 2) (Int32.toNatClampNeg ((10 * x1) + 0)) 40 → ((vp_in ((10 * x1) + 1) (hN h3 (a0 + 2))) ∧ (∀ h5 : am_H, h5 = sI h3 (a0 + 2) (Int32.toNatClampNeg ((10 * x1) + 1)) 10 → ((vp_in ((10 * x1) + 2) (hN h5 (a0 + 2))) ∧ (∀ h7 : am_H, h7 = sI h5 (a0 + 2) (Int32.toNatClampNeg ((10 * x1) + 2)) 1 → ((vp_in ((10 * x1) + 3) (hN h7 (a0 + 2))) ∧ (∀ h9 : am_H, h9 = sI h7 (a0 + 2) (Int32.toNatClampNeg ((10 * x1) + 3)) 1 → ((vp_in ((10 * x1) + 4) (hN h9 (a0 + 2))) ∧ (∀ h11 : am_H, h11 = sI h9 (a0 + 2) (Int32.toNatClampNeg ((10 * x1) + 4)) 2 → ((vp_in ((10 * x1) + 5) (hN h11 (a0 + 2))) ∧ (∀ h13 : am_H, h13 = sI h11 (a0 + 2) (Int32.toNatClampNeg ((10 * x1) + 5)) 50 → ((vp_in ((10 * x1) + 6) (hN h13 (a0 + 2))) ∧ (∀ h15 : am_H, h15 = sI h13 (a0 + 2) (Int32.toNatClampNeg ((10 * x1) + 6)) 0 → ((vp_in ((10 * x1) + 7) (hN h15 (a0 + 2))) ∧ (∀ h17 : am_H, h17 = sI h15 (a0 + 2) (Int32.toNatClampNeg ((10 * x1) + 7)) 0 → ((vp_in ((10 * x1) + 8) (hN h17 (a0 + 2))) ∧ (∀ h19 : am_H, h19 = sI h17 (a0 + 2) (Int32.toNatClampNeg ((10 * x1) + 8)) ((-1)) → ((vp_in ((10 * x1) + 9) (hN h19 (a0 + 2))) ∧ (∀ h21 : am_H, h21 = sI h19 (a0 + 2) (Int32.toNatClampNeg ((10 * x1) + 9)) 0 → (Q none h21)))))))))))))))))))))) : EvM w mX10_starts0 d [.ref a0, .int x1] h Q := by
  show Ev w (am_Z w) mX10_starts0 d 0 [(0, .ref a0), (1, .int x1)] [] h Q
  refine Ev.aload_n 0 (am_dt kX10_starts0 0 rfl) rfl rfl ?_
  obtain ⟨f1, k⟩ := k
  refine Ev.getRe (ci := 10) (k := 10) (r := a0 + 2) (am_dt kX10_starts0 1 rfl) (by decide) (by decide) rfl wd_543 f1.1 (am_L.r f1 1 rfl) (by omega) ?_
  refine Ev.bipush (v := 10) (am_dt kX10_starts0 2 rfl) (by decide) ?_
  refine Ev.iload_n 1 (am_dt kX10_starts0 3 rfl) rfl rfl ?_
  refine Ev.imul (am_dt kX10_starts0 4 rfl) ?_
  refine Ev.iconst (v := 0) (am_dt kX10_starts0 5 rfl) (by decide) ?_
  refine Ev.iadd (am_dt kX10_starts0 6 rfl) ?_
  refine Ev.bipush (v := 40) (am_dt kX10_starts0 7 rfl) (by decide) ?_
  obtain ⟨f2, k⟩ := k
  refine Ev.iast' (am_dt kX10_starts0 8 rfl) (am_L.s f1 1 rfl) f2 (fun h3 eh3 => ?_)
  have k := k h3 eh3
  have f1 := am_LsI eh3 f1
  refine Ev.aload_n 0 (am_dt kX10_starts0 9 rfl) rfl rfl ?_
  refine Ev.getRe (ci := 10) (k := 10) (r := a0 + 2) (am_dt kX10_starts0 10 rfl) (by decide) (by decide) rfl wd_543 f1.1 (am_L.r f1 1 rfl) (by omega) ?_
  refine Ev.bipush (v := 10) (am_dt kX10_starts0 11 rfl) (by decide) ?_
  refine Ev.iload_n 1 (am_dt kX10_starts0 12 rfl) rfl rfl ?_
  refine Ev.imul (am_dt kX10_starts0 13 rfl) ?_
  refine Ev.iconst (v := 1) (am_dt kX10_starts0 14 rfl) (by decide) ?_
  refine Ev.iadd (am_dt kX10_starts0 15 rfl) ?_
  refine Ev.bipush (v := 10) (am_dt kX10_starts0 16 rfl) (by decide) ?_
  obtain ⟨f4, k⟩ := k
  refine Ev.iast' (am_dt kX10_starts0 17 rfl) (am_L.s f1 1 rfl) f4 (fun h5 eh5 => ?_)
  have k := k h5 eh5
  have f1 := am_LsI eh5 f1
  refine Ev.aload_n 0 (am_dt kX10_starts0 18 rfl) rfl rfl ?_
  refine Ev.getRe (ci := 10) (k := 10) (r := a0 + 2) (am_dt kX10_starts0 19 rfl) (by decide) (by decide) rfl wd_543 f1.1 (am_L.r f1 1 rfl) (by omega) ?_
  refine Ev.bipush (v := 10) (am_dt kX10_starts0 20 rfl) (by decide) ?_
  refine Ev.iload_n 1 (am_dt kX10_starts0 21 rfl) rfl rfl ?_
  refine Ev.imul (am_dt kX10_starts0 22 rfl) ?_
  refine Ev.iconst (v := 2) (am_dt kX10_starts0 23 rfl) (by decide) ?_
  refine Ev.iadd (am_dt kX10_starts0 24 rfl) ?_
  refine Ev.iconst (v := 1) (am_dt kX10_starts0 25 rfl) (by decide) ?_
  obtain ⟨f6, k⟩ := k
  refine Ev.iast' (am_dt kX10_starts0 26 rfl) (am_L.s f1 1 rfl) f6 (fun h7 eh7 => ?_)
  have k := k h7 eh7
  have f1 := am_LsI eh7 f1
  refine Ev.aload_n 0 (am_dt kX10_starts0 27 rfl) rfl rfl ?_
  refine Ev.getRe (ci := 10) (k := 10) (r := a0 + 2) (am_dt kX10_starts0 28 rfl) (by decide) (by decide) rfl wd_543 f1.1 (am_L.r f1 1 rfl) (by omega) ?_
  refine Ev.bipush (v := 10) (am_dt kX10_starts0 29 rfl) (by decide) ?_
  refine Ev.iload_n 1 (am_dt kX10_starts0 30 rfl) rfl rfl ?_
  refine Ev.imul (am_dt kX10_starts0 31 rfl) ?_
  refine Ev.iconst (v := 3) (am_dt kX10_starts0 32 rfl) (by decide) ?_
  refine Ev.iadd (am_dt kX10_starts0 33 rfl) ?_
  refine Ev.iconst (v := 1) (am_dt kX10_starts0 34 rfl) (by decide) ?_
  obtain ⟨f8, k⟩ := k
  refine Ev.iast' (am_dt kX10_starts0 35 rfl) (am_L.s f1 1 rfl) f8 (fun h9 eh9 => ?_)
  have k := k h9 eh9
  have f1 := am_LsI eh9 f1
  refine Ev.aload_n 0 (am_dt kX10_starts0 36 rfl) rfl rfl ?_
  refine Ev.getRe (ci := 10) (k := 10) (r := a0 + 2) (am_dt kX10_starts0 37 rfl) (by decide) (by decide) rfl wd_543 f1.1 (am_L.r f1 1 rfl) (by omega) ?_
  refine Ev.bipush (v := 10) (am_dt kX10_starts0 38 rfl) (by decide) ?_
  refine Ev.iload_n 1 (am_dt kX10_starts0 39 rfl) rfl rfl ?_
  refine Ev.imul (am_dt kX10_starts0 40 rfl) ?_
  refine Ev.iconst (v := 4) (am_dt kX10_starts0 41 rfl) (by decide) ?_
  refine Ev.iadd (am_dt kX10_starts0 42 rfl) ?_
  refine Ev.iconst (v := 2) (am_dt kX10_starts0 43 rfl) (by decide) ?_
  obtain ⟨f10, k⟩ := k
  refine Ev.iast' (am_dt kX10_starts0 44 rfl) (am_L.s f1 1 rfl) f10 (fun h11 eh11 => ?_)
  have k := k h11 eh11
  have f1 := am_LsI eh11 f1
  refine Ev.aload_n 0 (am_dt kX10_starts0 45 rfl) rfl rfl ?_
  refine Ev.getRe (ci := 10) (k := 10) (r := a0 + 2) (am_dt kX10_starts0 46 rfl) (by decide) (by decide) rfl wd_543 f1.1 (am_L.r f1 1 rfl) (by omega) ?_
  refine Ev.bipush (v := 10) (am_dt kX10_starts0 47 rfl) (by decide) ?_
  refine Ev.iload_n 1 (am_dt kX10_starts0 48 rfl) rfl rfl ?_
  refine Ev.imul (am_dt kX10_starts0 49 rfl) ?_
  refine Ev.iconst (v := 5) (am_dt kX10_starts0 50 rfl) (by decide) ?_
  refine Ev.iadd (am_dt kX10_starts0 51 rfl) ?_
  refine Ev.bipush (v := 50) (am_dt kX10_starts0 52 rfl) (by decide) ?_
  obtain ⟨f12, k⟩ := k
  refine Ev.iast' (am_dt kX10_starts0 53 rfl) (am_L.s f1 1 rfl) f12 (fun h13 eh13 => ?_)
  have k := k h13 eh13
  have f1 := am_LsI eh13 f1
  refine Ev.aload_n 0 (am_dt kX10_starts0 54 rfl) rfl rfl ?_
  refine Ev.getRe (ci := 10) (k := 10) (r := a0 + 2) (am_dt kX10_starts0 55 rfl) (by decide) (by decide) rfl wd_543 f1.1 (am_L.r f1 1 rfl) (by omega) ?_
  refine Ev.bipush (v := 10) (am_dt kX10_starts0 56 rfl) (by decide) ?_
  refine Ev.iload_n 1 (am_dt kX10_starts0 57 rfl) rfl rfl ?_
  refine Ev.imul (am_dt kX10_starts0 58 rfl) ?_
  refine Ev.bipush (v := 6) (am_dt kX10_starts0 59 rfl) (by decide) ?_
  refine Ev.iadd (am_dt kX10_starts0 60 rfl) ?_
  refine Ev.iconst (v := 0) (am_dt kX10_starts0 61 rfl) (by decide) ?_
  obtain ⟨f14, k⟩ := k
  refine Ev.iast' (am_dt kX10_starts0 62 rfl) (am_L.s f1 1 rfl) f14 (fun h15 eh15 => ?_)
  have k := k h15 eh15
  have f1 := am_LsI eh15 f1
  refine Ev.aload_n 0 (am_dt kX10_starts0 63 rfl) rfl rfl ?_
  refine Ev.getRe (ci := 10) (k := 10) (r := a0 + 2) (am_dt kX10_starts0 64 rfl) (by decide) (by decide) rfl wd_543 f1.1 (am_L.r f1 1 rfl) (by omega) ?_
  refine Ev.bipush (v := 10) (am_dt kX10_starts0 65 rfl) (by decide) ?_
  refine Ev.iload_n 1 (am_dt kX10_starts0 66 rfl) rfl rfl ?_
  refine Ev.imul (am_dt kX10_starts0 67 rfl) ?_
  refine Ev.bipush (v := 7) (am_dt kX10_starts0 68 rfl) (by decide) ?_
  refine Ev.iadd (am_dt kX10_starts0 69 rfl) ?_
  refine Ev.iconst (v := 0) (am_dt kX10_starts0 70 rfl) (by decide) ?_
  obtain ⟨f16, k⟩ := k
  refine Ev.iast' (am_dt kX10_starts0 71 rfl) (am_L.s f1 1 rfl) f16 (fun h17 eh17 => ?_)
  have k := k h17 eh17
  have f1 := am_LsI eh17 f1
  refine Ev.aload_n 0 (am_dt kX10_starts0 72 rfl) rfl rfl ?_
  refine Ev.getRe (ci := 10) (k := 10) (r := a0 + 2) (am_dt kX10_starts0 73 rfl) (by decide) (by decide) rfl wd_543 f1.1 (am_L.r f1 1 rfl) (by omega) ?_
  refine Ev.bipush (v := 10) (am_dt kX10_starts0 74 rfl) (by decide) ?_
  refine Ev.iload_n 1 (am_dt kX10_starts0 75 rfl) rfl rfl ?_
  refine Ev.imul (am_dt kX10_starts0 76 rfl) ?_
  refine Ev.bipush (v := 8) (am_dt kX10_starts0 77 rfl) (by decide) ?_
  refine Ev.iadd (am_dt kX10_starts0 78 rfl) ?_
  refine Ev.iconst (v := (-1)) (am_dt kX10_starts0 79 rfl) (by decide) ?_
  obtain ⟨f18, k⟩ := k
  refine Ev.iast' (am_dt kX10_starts0 80 rfl) (am_L.s f1 1 rfl) f18 (fun h19 eh19 => ?_)
  have k := k h19 eh19
  have f1 := am_LsI eh19 f1
  refine Ev.aload_n 0 (am_dt kX10_starts0 81 rfl) rfl rfl ?_
  refine Ev.getRe (ci := 10) (k := 10) (r := a0 + 2) (am_dt kX10_starts0 82 rfl) (by decide) (by decide) rfl wd_543 f1.1 (am_L.r f1 1 rfl) (by omega) ?_
  refine Ev.bipush (v := 10) (am_dt kX10_starts0 83 rfl) (by decide) ?_
  refine Ev.iload_n 1 (am_dt kX10_starts0 84 rfl) rfl rfl ?_
  refine Ev.imul (am_dt kX10_starts0 85 rfl) ?_
  refine Ev.bipush (v := 9) (am_dt kX10_starts0 86 rfl) (by decide) ?_
  refine Ev.iadd (am_dt kX10_starts0 87 rfl) ?_
  refine Ev.iconst (v := 0) (am_dt kX10_starts0 88 rfl) (by decide) ?_
  obtain ⟨f20, k⟩ := k
  refine Ev.iast' (am_dt kX10_starts0 89 rfl) (am_L.s f1 1 rfl) f20 (fun h21 eh21 => ?_)
  have k := k h21 eh21
  have f1 := am_LsI eh21 f1
  exact Ev.vret (am_dt kX10_starts0 90 rfl) rfl k
set_option maxRecDepth 20000 in
set_option maxHeartbeats 2000000 in
theorem bX10_puts_0 {w : am_W} {d : Nat} {h : am_H} {Q : Option Value → am_H → Prop} {a0 : Nat} {x1 : Int32}  (k : (am_L 10 a0 h) ∧ ((vp_in (hI h a0 21) (hN h (a0 + 5))) ∧ (∀ h3 : am_H, h3 = sI h (a0 + 5) (Int32.toNatClampNeg (hI h a0 21)) x1 → (∀ h4 : am_H, h4 = sI h3 a0 21 ((hI h3 a0 21) + 1) → (Q none h4))))) : EvM w mX10_puts d [.ref a0, .int x1] h Q := by
  show Ev w (am_Z w) mX10_puts d 0 [(0, .ref a0), (1, .int x1)] [] h Q
  refine Ev.aload_n 0 (am_dt kX10_puts 0 rfl) rfl rfl ?_
  obtain ⟨f1, k⟩ := k
  refine Ev.getRe (ci := 10) (k := 13) (r := a0 + 5) (am_dt kX10_puts 1 rfl) (by decide) (by decide) rfl wd_546 f1.1 (am_L.r f1 4 rfl) (by omega) ?_
  refine Ev.aload_n 0 (am_dt kX10_puts 2 rfl) rfl rfl ?_
  refine Ev.getI (ci := 10) (k := 21) (am_dt kX10_puts 3 rfl) (by decide) (by decide) rfl wd_598 f1.1 ?_
  refine Ev.iload_n 1 (am_dt kX10_puts 4 rfl) rfl rfl ?_
  obtain ⟨f2, k⟩ := k
  refine Ev.iast' (am_dt kX10_puts 5 rfl) (am_L.s f1 4 rfl) f2 (fun h3 eh3 => ?_)
  have k := k h3 eh3
  have f1 := am_LsI eh3 f1
  refine Ev.aload_n 0 (am_dt kX10_puts 6 rfl) rfl rfl ?_
  refine Ev.dup (am_dt kX10_puts 7 rfl) rfl ?_
  refine Ev.getI (ci := 10) (k := 21) (am_dt kX10_puts 8 rfl) (by decide) (by decide) rfl wd_598 f1.1 ?_
  refine Ev.iconst (v := 1) (am_dt kX10_puts 9 rfl) (by decide) ?_
  refine Ev.iadd (am_dt kX10_puts 10 rfl) ?_
  refine Ev.putI' (ci := 10) (k := 21) (am_dt kX10_puts 11 rfl) (by decide) (by decide) wd_598 rfl rfl rfl rfl f1.1 (fun h4 eh4 => ?_)
  have k := k h4 eh4
  have f1 := am_LsI eh4 f1
  exact Ev.vret (am_dt kX10_puts 12 rfl) rfl k
set_option maxRecDepth 20000 in
set_option maxHeartbeats 2000000 in
theorem bX10_fact_0 {w : am_W} {d : Nat} {h : am_H} {Q : Option Value → am_H → Prop} {a0 : Nat}  (k : (am_L 10 a0 h) ∧ (((hI h a0 6) = 1 → (((hJ h a0 7) = 240023 → (Q (some (.int 1)) h)) ∧ (¬ (hJ h a0 7) = 240023 → (((hJ h a0 7) = 9748424 → (Q (some (.int 2)) h)) ∧ (¬ (hJ h a0 7) = 9748424 → (((hJ h a0 7) = 6624454 → (Q (some (.int 3)) h)) ∧ (¬ (hJ h a0 7) = 6624454 → (((hJ h a0 7) = 9813100 → (Q (some (.int 4)) h)) ∧ (¬ (hJ h a0 7) = 9813100 → (((hJ h a0 7) = 453701 → (Q (some (.int 5)) h)) ∧ (¬ (hJ h a0 7) = 453701 → (((hJ h a0 7) = 191610176 → (Q (some (.int 6)) h)) ∧ (¬ (hJ h a0 7) = 191610176 → (Q (some (.int 0)) h)))))))))))))) ∧ (¬ (hI h a0 6) = 1 → (Q (some (.int 0)) h)))) : EvM w mX10_fact d [.ref a0] h Q := by
  show Ev w (am_Z w) mX10_fact d 0 [(0, .ref a0)] [] h Q
  refine Ev.aload_n 0 (am_dt kX10_fact 0 rfl) rfl rfl ?_
  obtain ⟨f1, k⟩ := k
  refine Ev.getI (ci := 10) (k := 6) (am_dt kX10_fact 1 rfl) (by decide) (by decide) rfl wd_591 f1.1 ?_
  refine Ev.iconst (v := 1) (am_dt kX10_fact 2 rfl) (by decide) ?_
  refine Ev.icmp_eq (tgt := 10) (am_dt kX10_fact 3 rfl) (by decide) (fun c => ?_) (fun c => ?_)
  · have k := k.1 c
    refine Ev.aload_n 0 (am_dt kX10_fact 6 rfl) rfl rfl ?_
    refine Ev.getJ (ci := 10) (k := 7) (am_dt kX10_fact 7 rfl) (by decide) (by decide) rfl wd_589 f1.1 ?_
    refine Ev.ldc2 (v := 240023) (am_dt kX10_fact 8 rfl) wd_599 ?_
    refine Ev.lcmp (am_dt kX10_fact 9 rfl) ?_
    refine Ev.if_ne (tgt := 23) (am_dt kX10_fact 10 rfl) (by decide) (fun c => ?_) (fun c => ?_)
    · have k := k.2 (mt am_lc.mpr c)
      refine Ev.aload_n 0 (am_dt kX10_fact 13 rfl) rfl rfl ?_
      refine Ev.getJ (ci := 10) (k := 7) (am_dt kX10_fact 14 rfl) (by decide) (by decide) rfl wd_589 f1.1 ?_
      refine Ev.ldc2 (v := 9748424) (am_dt kX10_fact 15 rfl) wd_600 ?_
      refine Ev.lcmp (am_dt kX10_fact 16 rfl) ?_
      refine Ev.if_ne (tgt := 36) (am_dt kX10_fact 17 rfl) (by decide) (fun c => ?_) (fun c => ?_)
      · have k := k.2 (mt am_lc.mpr c)
        refine Ev.aload_n 0 (am_dt kX10_fact 20 rfl) rfl rfl ?_
        refine Ev.getJ (ci := 10) (k := 7) (am_dt kX10_fact 21 rfl) (by decide) (by decide) rfl wd_589 f1.1 ?_
        refine Ev.ldc2 (v := 6624454) (am_dt kX10_fact 22 rfl) wd_601 ?_
        refine Ev.lcmp (am_dt kX10_fact 23 rfl) ?_
        refine Ev.if_ne (tgt := 49) (am_dt kX10_fact 24 rfl) (by decide) (fun c => ?_) (fun c => ?_)
        · have k := k.2 (mt am_lc.mpr c)
          refine Ev.aload_n 0 (am_dt kX10_fact 27 rfl) rfl rfl ?_
          refine Ev.getJ (ci := 10) (k := 7) (am_dt kX10_fact 28 rfl) (by decide) (by decide) rfl wd_589 f1.1 ?_
          refine Ev.ldc2 (v := 9813100) (am_dt kX10_fact 29 rfl) wd_602 ?_
          refine Ev.lcmp (am_dt kX10_fact 30 rfl) ?_
          refine Ev.if_ne (tgt := 62) (am_dt kX10_fact 31 rfl) (by decide) (fun c => ?_) (fun c => ?_)
          · have k := k.2 (mt am_lc.mpr c)
            refine Ev.aload_n 0 (am_dt kX10_fact 34 rfl) rfl rfl ?_
            refine Ev.getJ (ci := 10) (k := 7) (am_dt kX10_fact 35 rfl) (by decide) (by decide) rfl wd_589 f1.1 ?_
            refine Ev.ldc2 (v := 453701) (am_dt kX10_fact 36 rfl) wd_603 ?_
            refine Ev.lcmp (am_dt kX10_fact 37 rfl) ?_
            refine Ev.if_ne (tgt := 75) (am_dt kX10_fact 38 rfl) (by decide) (fun c => ?_) (fun c => ?_)
            · have k := k.2 (mt am_lc.mpr c)
              refine Ev.aload_n 0 (am_dt kX10_fact 41 rfl) rfl rfl ?_
              refine Ev.getJ (ci := 10) (k := 7) (am_dt kX10_fact 42 rfl) (by decide) (by decide) rfl wd_589 f1.1 ?_
              refine Ev.ldc2 (v := 191610176) (am_dt kX10_fact 43 rfl) wd_604 ?_
              refine Ev.lcmp (am_dt kX10_fact 44 rfl) ?_
              refine Ev.if_ne (tgt := 89) (am_dt kX10_fact 45 rfl) (by decide) (fun c => ?_) (fun c => ?_)
              · have k := k.2 (mt am_lc.mpr c)
                refine Ev.iconst (v := 0) (am_dt kX10_fact 48 rfl) (by decide) ?_
                exact Ev.iret .int (am_dt kX10_fact 49 rfl) rfl rfl k
              · have k := k.1 (am_lc.mp c)
                refine Ev.bipush (v := 6) (am_dt kX10_fact 46 rfl) (by decide) ?_
                exact Ev.iret .int (am_dt kX10_fact 47 rfl) rfl rfl k
            · have k := k.1 (am_lc.mp c)
              refine Ev.iconst (v := 5) (am_dt kX10_fact 39 rfl) (by decide) ?_
              exact Ev.iret .int (am_dt kX10_fact 40 rfl) rfl rfl k
          · have k := k.1 (am_lc.mp c)
            refine Ev.iconst (v := 4) (am_dt kX10_fact 32 rfl) (by decide) ?_
            exact Ev.iret .int (am_dt kX10_fact 33 rfl) rfl rfl k
        · have k := k.1 (am_lc.mp c)
          refine Ev.iconst (v := 3) (am_dt kX10_fact 25 rfl) (by decide) ?_
          exact Ev.iret .int (am_dt kX10_fact 26 rfl) rfl rfl k
      · have k := k.1 (am_lc.mp c)
        refine Ev.iconst (v := 2) (am_dt kX10_fact 18 rfl) (by decide) ?_
        exact Ev.iret .int (am_dt kX10_fact 19 rfl) rfl rfl k
    · have k := k.1 (am_lc.mp c)
      refine Ev.iconst (v := 1) (am_dt kX10_fact 11 rfl) (by decide) ?_
      exact Ev.iret .int (am_dt kX10_fact 12 rfl) rfl rfl k
  · have k := k.2 c
    refine Ev.iconst (v := 0) (am_dt kX10_fact 4 rfl) (by decide) ?_
    exact Ev.iret .int (am_dt kX10_fact 5 rfl) rfl rfl k
set_option maxRecDepth 20000 in
set_option maxHeartbeats 2000000 in
theorem bX10_reads_0 {w : am_W} {d : Nat} {h : am_H} {Q : Option Value → am_H → Prop} {a0 : Nat}  (k : (am_L 10 a0 h) ∧ ((vp_in 0 (hN h (a0 + 14))) ∧ (∀ h3 : am_H, h3 = sI h (a0 + 14) (Int32.toNatClampNeg 0) 0 → (Ev w (am_Z w) mX10_reads (d + 1) 11 [(0, .ref a0), (1, .int 0), (2, .int 1)] [] h3 Q)))) : EvM w mX10_reads (d + 1) [.ref a0] h Q := by
  show Ev w (am_Z w) mX10_reads (d + 1) 0 [(0, .ref a0)] [] h Q
  refine Ev.iconst (v := 0) (am_dt kX10_reads 0 rfl) (by decide) ?_
  refine Ev.istore_n (lv' := [(1, .int 0), (0, .ref a0)]) (am_dt kX10_reads 1 rfl) rfl (by decide) rfl ?_
  refine Ev.iconst (v := 1) (am_dt kX10_reads 2 rfl) (by decide) ?_
  refine Ev.istore_n (lv' := [(2, .int 1), (1, .int 0), (0, .ref a0)]) (am_dt kX10_reads 3 rfl) rfl (by decide) rfl ?_
  refine Ev.aload_n 2 (am_dt kX10_reads 4 rfl) rfl rfl ?_
  obtain ⟨f1, k⟩ := k
  refine Ev.getRe (ci := 10) (k := 24) (r := a0 + 14) (am_dt kX10_reads 5 rfl) (by decide) (by decide) rfl wd_555 f1.1 (am_L.r f1 13 rfl) (by omega) ?_
  refine Ev.iconst (v := 0) (am_dt kX10_reads 6 rfl) (by decide) ?_
  refine Ev.iconst (v := 0) (am_dt kX10_reads 7 rfl) (by decide) ?_
  obtain ⟨f2, k⟩ := k
  refine Ev.zast' (am_dt kX10_reads 8 rfl) (am_L.s f1 13 rfl) f2 rfl (fun h3 eh3 => ?_)
  have k := k h3 eh3
  have f1 := am_LsI eh3 f1
  exact Ev.sub [2, 1, 0] rfl k
set_option maxRecDepth 20000 in
set_option maxHeartbeats 2000000 in
theorem bX10_reads_11 {w : am_W} {d : Nat} {h : am_H} {Q : Option Value → am_H → Prop} {a0 : Nat} {x1 : Int32} {x2 : Int32}  (k : (x2 = 0 → ((am_L 10 a0 h) ∧ (EvM w mX10_isSign d [.ref a0, .int 43] h (fun r3 h2 => ∃ v4 : Int32, r3 = some (.int v4) ∧ ((v4 = 0 → ((am_L 10 a0 h2) ∧ (EvM w mX10_isSign d [.ref a0, .int 45] h2 (fun r7 h6 => ∃ v8 : Int32, r7 = some (.int v8) ∧ ((v8 = 0 → ((am_L 10 a0 h6) ∧ (EvM w mX10_isSign d [.ref a0, .int 42] h6 (fun r11 h10 => ∃ v12 : Int32, r11 = some (.int v12) ∧ ((v12 = 0 → ((am_L 10 a0 h10) ∧ (EvM w mX10_isSign d [.ref a0, .int 60] h10 (fun r15 h14 => ∃ v16 : Int32, r15 = some (.int v16) ∧ ((v16 = 0 → ((am_L 10 a0 h14) ∧ (EvM w mX10_isSign d [.ref a0, .int 61] h14 (fun r19 h18 => ∃ v20 : Int32, r19 = some (.int v20) ∧ ((v20 = 0 → (Ev w (am_Z w) mX10_reads (d + 1) 304 [(0, .ref a0), (1, .int x1), (2, .int x2)] [] h18 Q)) ∧ (¬ v20 = 0 → (Ev w (am_Z w) mX10_reads (d + 1) 263 [(0, .ref a0), (1, .int x1), (2, .int x2)] [] h18 Q))))))) ∧ (¬ v16 = 0 → (Ev w (am_Z w) mX10_reads (d + 1) 263 [(0, .ref a0), (1, .int x1), (2, .int x2)] [] h14 Q))))))) ∧ (¬ v12 = 0 → (Ev w (am_Z w) mX10_reads (d + 1) 206 [(0, .ref a0), (1, .int x1)] [] h10 Q))))))) ∧ (¬ v8 = 0 → (Ev w (am_Z w) mX10_reads (d + 1) 206 [(0, .ref a0), (1, .int x1)] [] h6 Q))))))) ∧ (¬ v4 = 0 → (Ev w (am_Z w) mX10_reads (d + 1) 206 [(0, .ref a0), (1, .int x1)] [] h2 Q))))))) ∧ (¬ x2 = 0 → ((am_L 10 a0 h) ∧ (EvM w mX10_fact d [.ref a0] h (fun r23 h22 => ∃ v24 : Int32, r23 = some (.int v24) ∧ ((am_L 10 a0 h22) ∧ (EvM w mX10_isWord d [.ref a0, .long 10631] h22 (fun r27 h26 => ∃ v28 : Int32, r27 = some (.int v28) ∧ ((am_L 10 a0 h26) ∧ (EvM w mX10_isSign d [.ref a0, .int 40] h26 (fun r31 h30 => ∃ v32 : Int32, r31 = some (.int v32) ∧ ((v24 = 0 → ((v28 = 0 → ((v32 = 0 → ((am_L 10 a0 h30) ∧ (((hI h30 a0 6) = 2 → (Ev w (am_Z w) mX10_reads (d + 1) 65 [(0, .ref a0), (1, .int x1), (2, .int x2), (3, .int v24), (4, .int v28), (5, .int v32)] [] h30 Q)) ∧ (¬ (hI h30 a0 6) = 2 → (EvM w mX10_fails d [.ref a0, .int 1] h30 (fun r35 h34 => ∃ v36 : Int32, r35 = some (.int v36) ∧ (narrow .boolean (.int v36) = .int v36 ∧ (Q (some (.int v36)) h34)))))))) ∧ (¬ v32 = 0 → (Ev w (am_Z w) mX10_reads (d + 1) 65 [(0, .ref a0), (1, .int x1), (2, .int x2), (3, .int v24), (4, .int v28), (5, .int v32)] [] h30 Q)))) ∧ (¬ v28 = 0 → (Ev w (am_Z w) mX10_reads (d + 1) 65 [(0, .ref a0), (1, .int x1), (2, .int x2), (3, .int v24), (4, .int v28), (5, .int v32)] [] h30 Q)))) ∧ (¬ v24 = 0 → (Ev w (am_Z w) mX10_reads (d + 1) 65 [(0, .ref a0), (1, .int x1), (2, .int x2), (3, .int v24), (4, .int v28), (5, .int v32)] [] h30 Q)))))))))))))) : Ev w (am_Z w) mX10_reads (d + 1) 11 [(0, .ref a0), (1, .int x1), (2, .int x2)] [] h Q := by
  refine Ev.iload_n 2 (am_dt kX10_reads 9 rfl) rfl rfl ?_
  refine Ev.if_eq (tgt := 179) (am_dt kX10_reads 10 rfl) (by decide) (fun c => ?_) (fun c => ?_)
  · have k := k.1 c
    refine Ev.aload_n 0 (am_dt kX10_reads 95 rfl) rfl rfl ?_
    refine Ev.bipush (v := 43) (am_dt kX10_reads 96 rfl) (by decide) ?_
    obtain ⟨f1, k⟩ := k
    refine Ev.callV (ci := 10) (v := mX10_isSign) (As := [.int 43]) (st := []) okX10_isSign wd_605 wd_606 wd_607 (am_dt kX10_reads 97 rfl) (by decide) rfl rfl (Nat.le_of_ble_eq_true rfl) (Nat.le_of_ble_eq_true rfl) f1.1 ?_
    refine EvM.mono k (fun r3 h2 k => ?_)
    obtain ⟨v4, rfl, k⟩ := k
    show Ev w _ _ _ 185 _ [.int v4] _ _
    refine Ev.if_ne (tgt := 206) (am_dt kX10_reads 98 rfl) (by decide) (fun c => ?_) (fun c => ?_)
    · have k := k.2 c
      exact Ev.sub [0, 1] rfl k
    · have k := k.1 c
      refine Ev.aload_n 0 (am_dt kX10_reads 99 rfl) rfl rfl ?_
      refine Ev.bipush (v := 45) (am_dt kX10_reads 100 rfl) (by decide) ?_
      obtain ⟨f5, k⟩ := k
      refine Ev.callV (ci := 10) (v := mX10_isSign) (As := [.int 45]) (st := []) okX10_isSign wd_605 wd_606 wd_607 (am_dt kX10_reads 101 rfl) (by decide) rfl rfl (Nat.le_of_ble_eq_true rfl) (Nat.le_of_ble_eq_true rfl) f5.1 ?_
      refine EvM.mono k (fun r7 h6 k => ?_)
      obtain ⟨v8, rfl, k⟩ := k
      show Ev w _ _ _ 194 _ [.int v8] _ _
      refine Ev.if_ne (tgt := 206) (am_dt kX10_reads 102 rfl) (by decide) (fun c => ?_) (fun c => ?_)
      · have k := k.2 c
        exact Ev.sub [0, 1] rfl k
      · have k := k.1 c
        refine Ev.aload_n 0 (am_dt kX10_reads 103 rfl) rfl rfl ?_
        refine Ev.bipush (v := 42) (am_dt kX10_reads 104 rfl) (by decide) ?_
        obtain ⟨f9, k⟩ := k
        refine Ev.callV (ci := 10) (v := mX10_isSign) (As := [.int 42]) (st := []) okX10_isSign wd_605 wd_606 wd_607 (am_dt kX10_reads 105 rfl) (by decide) rfl rfl (Nat.le_of_ble_eq_true rfl) (Nat.le_of_ble_eq_true rfl) f9.1 ?_
        refine EvM.mono k (fun r11 h10 k => ?_)
        obtain ⟨v12, rfl, k⟩ := k
        show Ev w _ _ _ 203 _ [.int v12] _ _
        refine Ev.if_eq (tgt := 245) (am_dt kX10_reads 106 rfl) (by decide) (fun c => ?_) (fun c => ?_)
        · have k := k.1 c
          refine Ev.aload_n 0 (am_dt kX10_reads 125 rfl) rfl rfl ?_
          refine Ev.bipush (v := 60) (am_dt kX10_reads 126 rfl) (by decide) ?_
          obtain ⟨f13, k⟩ := k
          refine Ev.callV (ci := 10) (v := mX10_isSign) (As := [.int 60]) (st := []) okX10_isSign wd_605 wd_606 wd_607 (am_dt kX10_reads 127 rfl) (by decide) rfl rfl (Nat.le_of_ble_eq_true rfl) (Nat.le_of_ble_eq_true rfl) f13.1 ?_
          refine EvM.mono k (fun r15 h14 k => ?_)
          obtain ⟨v16, rfl, k⟩ := k
          show Ev w _ _ _ 251 _ [.int v16] _ _
          refine Ev.if_ne (tgt := 263) (am_dt kX10_reads 128 rfl) (by decide) (fun c => ?_) (fun c => ?_)
          · have k := k.2 c
            exact k
          · have k := k.1 c
            refine Ev.aload_n 0 (am_dt kX10_reads 129 rfl) rfl rfl ?_
            refine Ev.bipush (v := 61) (am_dt kX10_reads 130 rfl) (by decide) ?_
            obtain ⟨f17, k⟩ := k
            refine Ev.callV (ci := 10) (v := mX10_isSign) (As := [.int 61]) (st := []) okX10_isSign wd_605 wd_606 wd_607 (am_dt kX10_reads 131 rfl) (by decide) rfl rfl (Nat.le_of_ble_eq_true rfl) (Nat.le_of_ble_eq_true rfl) f17.1 ?_
            refine EvM.mono k (fun r19 h18 k => ?_)
            obtain ⟨v20, rfl, k⟩ := k
            show Ev w _ _ _ 260 _ [.int v20] _ _
            refine Ev.if_eq (tgt := 304) (am_dt kX10_reads 132 rfl) (by decide) (fun c => ?_) (fun c => ?_)
            · have k := k.1 c
              exact k
            · have k := k.2 c
              exact k
        · have k := k.2 c
          exact Ev.sub [0, 1] rfl k
  · have k := k.2 c
    refine Ev.aload_n 0 (am_dt kX10_reads 11 rfl) rfl rfl ?_
    obtain ⟨f21, k⟩ := k
    refine Ev.callV (ci := 10) (v := mX10_fact) (As := []) (st := []) okX10_fact wd_608 wd_609 wd_610 (am_dt kX10_reads 12 rfl) (by decide) rfl rfl (Nat.le_of_ble_eq_true rfl) (Nat.le_of_ble_eq_true rfl) f21.1 ?_
    refine EvM.mono k (fun r23 h22 k => ?_)
    obtain ⟨v24, rfl, k⟩ := k
    show Ev w _ _ _ 19 _ [.int v24] _ _
    refine Ev.istore_n (lv' := [(3, .int v24), (0, .ref a0), (1, .int x1), (2, .int x2)]) (am_dt kX10_reads 13 rfl) rfl (by decide) rfl ?_
    refine Ev.aload_n 1 (am_dt kX10_reads 14 rfl) rfl rfl ?_
    refine Ev.ldc2 (v := 10631) (am_dt kX10_reads 15 rfl) wd_611 ?_
    obtain ⟨f25, k⟩ := k
    refine Ev.callV (ci := 10) (v := mX10_isWord) (As := [.long 10631]) (st := []) okX10_isWord wd_612 wd_613 wd_614 (am_dt kX10_reads 16 rfl) (by decide) rfl rfl (Nat.le_of_ble_eq_true rfl) (Nat.le_of_ble_eq_true rfl) f25.1 ?_
    refine EvM.mono k (fun r27 h26 k => ?_)
    obtain ⟨v28, rfl, k⟩ := k
    show Ev w _ _ _ 27 _ [.int v28] _ _
    refine Ev.istore (lv' := [(4, .int v28), (3, .int v24), (0, .ref a0), (1, .int x1), (2, .int x2)]) (am_dt kX10_reads 17 rfl) (by decide) rfl ?_
    refine Ev.aload_n 2 (am_dt kX10_reads 18 rfl) rfl rfl ?_
    refine Ev.bipush (v := 40) (am_dt kX10_reads 19 rfl) (by decide) ?_
    obtain ⟨f29, k⟩ := k
    refine Ev.callV (ci := 10) (v := mX10_isSign) (As := [.int 40]) (st := []) okX10_isSign wd_605 wd_606 wd_607 (am_dt kX10_reads 20 rfl) (by decide) rfl rfl (Nat.le_of_ble_eq_true rfl) (Nat.le_of_ble_eq_true rfl) f29.1 ?_
    refine EvM.mono k (fun r31 h30 k => ?_)
    obtain ⟨v32, rfl, k⟩ := k
    show Ev w _ _ _ 35 _ [.int v32] _ _
    refine Ev.istore (lv' := [(5, .int v32), (4, .int v28), (3, .int v24), (0, .ref a0), (1, .int x1), (2, .int x2)]) (am_dt kX10_reads 21 rfl) (by decide) rfl ?_
    refine Ev.iload_n 2 (am_dt kX10_reads 22 rfl) rfl rfl ?_
    refine Ev.if_ne (tgt := 65) (am_dt kX10_reads 23 rfl) (by decide) (fun c => ?_) (fun c => ?_)
    · have k := k.2 c
      exact Ev.sub [3, 4, 5, 2, 1, 0] rfl k
    · have k := k.1 c
      refine Ev.iload 1 (am_dt kX10_reads 24 rfl) rfl ?_
      refine Ev.if_ne (tgt := 65) (am_dt kX10_reads 25 rfl) (by decide) (fun c => ?_) (fun c => ?_)
      · have k := k.2 c
        exact Ev.sub [3, 4, 5, 2, 1, 0] rfl k
      · have k := k.1 c
        refine Ev.iload 0 (am_dt kX10_reads 26 rfl) rfl ?_
        refine Ev.if_ne (tgt := 65) (am_dt kX10_reads 27 rfl) (by decide) (fun c => ?_) (fun c => ?_)
        · have k := k.2 c
          exact Ev.sub [3, 4, 5, 2, 1, 0] rfl k
        · have k := k.1 c
          refine Ev.aload_n 3 (am_dt kX10_reads 28 rfl) rfl rfl ?_
          obtain ⟨f33, k⟩ := k
          refine Ev.getI (ci := 10) (k := 6) (am_dt kX10_reads 29 rfl) (by decide) (by decide) rfl wd_591 f33.1 ?_
          refine Ev.iconst (v := 2) (am_dt kX10_reads 30 rfl) (by decide) ?_
          refine Ev.icmp_eq (tgt := 65) (am_dt kX10_reads 31 rfl) (by decide) (fun c => ?_) (fun c => ?_)
          · have k := k.1 c
            exact Ev.sub [3, 4, 5, 2, 1, 0] rfl k
          · have k := k.2 c
            refine Ev.aload_n 3 (am_dt kX10_reads 32 rfl) rfl rfl ?_
            refine Ev.iconst (v := 1) (am_dt kX10_reads 33 rfl) (by decide) ?_
            refine Ev.callV (ci := 10) (v := mX10_fails) (As := [.int 1]) (st := []) okX10_fails wd_615 wd_616 wd_617 (am_dt kX10_reads 34 rfl) (by decide) rfl rfl (Nat.le_of_ble_eq_true rfl) (Nat.le_of_ble_eq_true rfl) f33.1 ?_
            refine EvM.mono k (fun r35 h34 k => ?_)
            obtain ⟨v36, rfl, k⟩ := k
            show Ev w _ _ _ 64 _ [.int v36] _ _
            exact Ev.iret .boolean (am_dt kX10_reads 35 rfl) rfl k.1 k.2
set_option maxRecDepth 20000 in
set_option maxHeartbeats 2000000 in
theorem bX10_reads_304 {w : am_W} {d : Nat} {h : am_H} {Q : Option Value → am_H → Prop} {a0 : Nat} {x1 : Int32} {x2 : Int32}  (k : (am_L 10 a0 h) ∧ (EvM w mX10_isWord d [.ref a0, .long 1111] h (fun r3 h2 => ∃ v4 : Int32, r3 = some (.int v4) ∧ ((v4 = 0 → ((am_L 10 a0 h2) ∧ (EvM w mX10_isWord d [.ref a0, .long 423] h2 (fun r7 h6 => ∃ v8 : Int32, r7 = some (.int v8) ∧ ((v8 = 0 → ((am_L 10 a0 h6) ∧ (EvM w mX10_isSign d [.ref a0, .int 41] h6 (fun r11 h10 => ∃ v12 : Int32, r11 = some (.int v12) ∧ ((v12 = 0 → (Ev w (am_Z w) mX10_reads (d + 1) 399 [(0, .ref a0), (1, .int x1)] [] h10 Q)) ∧ (¬ v12 = 0 → ((x1 ≤ 0 → (Ev w (am_Z w) mX10_reads (d + 1) 399 [(0, .ref a0), (1, .int x1)] [] h10 Q)) ∧ (¬ x1 ≤ 0 → ((am_L 10 a0 h10) ∧ (EvM w mX10_puts d [.ref a0, .int 29] h10 (fun r15 h14 => r15 = none ∧ (Ev w (am_Z w) mX10_reads (d + 1) 379 [(0, .ref a0), (1, .int (x1 + (-1))), (2, .int x2)] [] h14 Q)))))))))))) ∧ (¬ v8 = 0 → (Ev w (am_Z w) mX10_reads (d + 1) 324 [(0, .ref a0), (1, .int x1)] [] h6 Q))))))) ∧ (¬ v4 = 0 → (Ev w (am_Z w) mX10_reads (d + 1) 324 [(0, .ref a0), (1, .int x1)] [] h2 Q)))))) : Ev w (am_Z w) mX10_reads (d + 1) 304 [(0, .ref a0), (1, .int x1), (2, .int x2)] [] h Q := by
  refine Ev.aload_n 0 (am_dt kX10_reads 155 rfl) rfl rfl ?_
  refine Ev.ldc2 (v := 1111) (am_dt kX10_reads 156 rfl) wd_618 ?_
  obtain ⟨f1, k⟩ := k
  refine Ev.callV (ci := 10) (v := mX10_isWord) (As := [.long 1111]) (st := []) okX10_isWord wd_612 wd_613 wd_614 (am_dt kX10_reads 157 rfl) (by decide) rfl rfl (Nat.le_of_ble_eq_true rfl) (Nat.le_of_ble_eq_true rfl) f1.1 ?_
  refine EvM.mono k (fun r3 h2 k => ?_)
  obtain ⟨v4, rfl, k⟩ := k
  show Ev w _ _ _ 311 _ [.int v4] _ _
  refine Ev.if_ne (tgt := 324) (am_dt kX10_reads 158 rfl) (by decide) (fun c => ?_) (fun c => ?_)
  · have k := k.2 c
    exact Ev.sub [0, 1] rfl k
  · have k := k.1 c
    refine Ev.aload_n 0 (am_dt kX10_reads 159 rfl) rfl rfl ?_
    refine Ev.ldc2 (v := 423) (am_dt kX10_reads 160 rfl) wd_619 ?_
    obtain ⟨f5, k⟩ := k
    refine Ev.callV (ci := 10) (v := mX10_isWord) (As := [.long 423]) (st := []) okX10_isWord wd_612 wd_613 wd_614 (am_dt kX10_reads 161 rfl) (by decide) rfl rfl (Nat.le_of_ble_eq_true rfl) (Nat.le_of_ble_eq_true rfl) f5.1 ?_
    refine EvM.mono k (fun r7 h6 k => ?_)
    obtain ⟨v8, rfl, k⟩ := k
    show Ev w _ _ _ 321 _ [.int v8] _ _
    refine Ev.if_eq (tgt := 357) (am_dt kX10_reads 162 rfl) (by decide) (fun c => ?_) (fun c => ?_)
    · have k := k.1 c
      refine Ev.aload_n 0 (am_dt kX10_reads 180 rfl) rfl rfl ?_
      refine Ev.bipush (v := 41) (am_dt kX10_reads 181 rfl) (by decide) ?_
      obtain ⟨f9, k⟩ := k
      refine Ev.callV (ci := 10) (v := mX10_isSign) (As := [.int 41]) (st := []) okX10_isSign wd_605 wd_606 wd_607 (am_dt kX10_reads 182 rfl) (by decide) rfl rfl (Nat.le_of_ble_eq_true rfl) (Nat.le_of_ble_eq_true rfl) f9.1 ?_
      refine EvM.mono k (fun r11 h10 k => ?_)
      obtain ⟨v12, rfl, k⟩ := k
      show Ev w _ _ _ 363 _ [.int v12] _ _
      refine Ev.if_eq (tgt := 399) (am_dt kX10_reads 183 rfl) (by decide) (fun c => ?_) (fun c => ?_)
      · have k := k.1 c
        exact Ev.sub [0, 1] rfl k
      · have k := k.2 c
        refine Ev.iload_n 1 (am_dt kX10_reads 184 rfl) rfl rfl ?_
        refine Ev.if_le (tgt := 399) (am_dt kX10_reads 185 rfl) (by decide) (fun c => ?_) (fun c => ?_)
        · have k := k.1 c
          exact Ev.sub [0, 1] rfl k
        · have k := k.2 c
          refine Ev.aload_n 0 (am_dt kX10_reads 186 rfl) rfl rfl ?_
          refine Ev.bipush (v := 29) (am_dt kX10_reads 187 rfl) (by decide) ?_
          obtain ⟨f13, k⟩ := k
          refine Ev.callV (ci := 10) (v := mX10_puts) (As := [.int 29]) (st := []) okX10_puts wd_620 wd_621 wd_622 (am_dt kX10_reads 188 rfl) (by decide) rfl rfl (Nat.le_of_ble_eq_true rfl) (Nat.le_of_ble_eq_true rfl) f13.1 ?_
          refine EvM.mono k (fun r15 h14 k => ?_)
          obtain ⟨rfl, k⟩ := k
          show Ev w _ _ _ 376 _ [] _ _
          refine Ev.iinc (v := x1 + (-1)) (lv' := [(1, .int (x1 + (-1))), (0, .ref a0), (2, .int x2)]) 1 (am_dt kX10_reads 189 rfl) rfl rfl (by decide) rfl ?_
          exact Ev.sub [1, 0, 2] rfl k
    · have k := k.2 c
      exact Ev.sub [0, 1] rfl k
set_option maxRecDepth 20000 in
set_option maxHeartbeats 2000000 in
theorem bX10_reads_263 {w : am_W} {d : Nat} {h : am_H} {Q : Option Value → am_H → Prop} {a0 : Nat} {x1 : Int32} {x2 : Int32}  (k : (am_L 10 a0 h) ∧ ((vp_in x1 (hN h (a0 + 14))) ∧ (((hI h (a0 + 14) (Int32.toNatClampNeg x1)) = 0 → (EvM w mX10_isSign d [.ref a0, .int 60] h (fun r4 h3 => ∃ v5 : Int32, r4 = some (.int v5) ∧ ((v5 = 0 → ((am_L 10 a0 h3) ∧ (EvM w mX10_puts d [.ref a0, .int 25] h3 (fun r8 h7 => r8 = none ∧ ((am_L 10 a0 h7) ∧ ((vp_in x1 (hN h7 (a0 + 14))) ∧ (∀ h11 : am_H, h11 = sI h7 (a0 + 14) (Int32.toNatClampNeg x1) 1 → (EvM w mX10_nextToken d [.ref a0] h11 (fun r13 h12 => r13 = none ∧ (Ev w (am_Z w) mX10_reads (d + 1) 11 [(0, .ref a0), (1, .int x1), (2, .int 1)] [] h12 Q)))))))))) ∧ (¬ v5 = 0 → ((am_L 10 a0 h3) ∧ (EvM w mX10_puts d [.ref a0, .int 24] h3 (fun r16 h15 => r16 = none ∧ ((am_L 10 a0 h15) ∧ ((vp_in x1 (hN h15 (a0 + 14))) ∧ (∀ h19 : am_H, h19 = sI h15 (a0 + 14) (Int32.toNatClampNeg x1) 1 → (EvM w mX10_nextToken d [.ref a0] h19 (fun r21 h20 => r21 = none ∧ (Ev w (am_Z w) mX10_reads (d + 1) 11 [(0, .ref a0), (1, .int x1), (2, .int 1)] [] h20 Q)))))))))))))) ∧ (¬ (hI h (a0 + 14) (Int32.toNatClampNeg x1)) = 0 → (Ev w (am_Z w) mX10_reads (d + 1) 304 [(0, .ref a0), (1, .int x1), (2, .int x2)] [] h Q))))) : Ev w (am_Z w) mX10_reads (d + 1) 263 [(0, .ref a0), (1, .int x1), (2, .int x2)] [] h Q := by
  refine Ev.aload_n 0 (am_dt kX10_reads 133 rfl) rfl rfl ?_
  obtain ⟨f1, k⟩ := k
  refine Ev.getRe (ci := 10) (k := 24) (r := a0 + 14) (am_dt kX10_reads 134 rfl) (by decide) (by decide) rfl wd_555 f1.1 (am_L.r f1 13 rfl) (by omega) ?_
  refine Ev.iload_n 1 (am_dt kX10_reads 135 rfl) rfl rfl ?_
  obtain ⟨f2, k⟩ := k
  refine Ev.zald (am_dt kX10_reads 136 rfl) (am_L.s f1 13 rfl) f2 ?_
  refine Ev.if_ne (tgt := 304) (am_dt kX10_reads 137 rfl) (by decide) (fun c => ?_) (fun c => ?_)
  · have k := k.2 c
    exact k
  · have k := k.1 c
    refine Ev.aload_n 0 (am_dt kX10_reads 138 rfl) rfl rfl ?_
    refine Ev.aload_n 0 (am_dt kX10_reads 139 rfl) rfl rfl ?_
    refine Ev.bipush (v := 60) (am_dt kX10_reads 140 rfl) (by decide) ?_
    refine Ev.callV (ci := 10) (v := mX10_isSign) (As := [.int 60]) (st := [.ref a0]) okX10_isSign wd_605 wd_606 wd_607 (am_dt kX10_reads 141 rfl) (by decide) rfl rfl (Nat.le_of_ble_eq_true rfl) (Nat.le_of_ble_eq_true rfl) f1.1 ?_
    refine EvM.mono k (fun r4 h3 k => ?_)
    obtain ⟨v5, rfl, k⟩ := k
    show Ev w _ _ _ 279 _ [.int v5, .ref a0] _ _
    refine Ev.if_eq (tgt := 287) (am_dt kX10_reads 142 rfl) (by decide) (fun c => ?_) (fun c => ?_)
    · have k := k.1 c
      refine Ev.bipush (v := 25) (am_dt kX10_reads 145 rfl) (by decide) ?_
      obtain ⟨f6, k⟩ := k
      refine Ev.callV (ci := 10) (v := mX10_puts) (As := [.int 25]) (st := []) okX10_puts wd_620 wd_621 wd_622 (am_dt kX10_reads 146 rfl) (by decide) rfl rfl (Nat.le_of_ble_eq_true rfl) (Nat.le_of_ble_eq_true rfl) f6.1 ?_
      refine EvM.mono k (fun r8 h7 k => ?_)
      obtain ⟨rfl, k⟩ := k
      show Ev w _ _ _ 292 _ [] _ _
      refine Ev.aload_n 0 (am_dt kX10_reads 147 rfl) rfl rfl ?_
      obtain ⟨f9, k⟩ := k
      refine Ev.getRe (ci := 10) (k := 24) (r := a0 + 14) (am_dt kX10_reads 148 rfl) (by decide) (by decide) rfl wd_555 f9.1 (am_L.r f9 13 rfl) (by omega) ?_
      refine Ev.iload_n 1 (am_dt kX10_reads 149 rfl) rfl rfl ?_
      refine Ev.iconst (v := 1) (am_dt kX10_reads 150 rfl) (by decide) ?_
      obtain ⟨f10, k⟩ := k
      refine Ev.zast' (am_dt kX10_reads 151 rfl) (am_L.s f9 13 rfl) f10 rfl (fun h11 eh11 => ?_)
      have k := k h11 eh11
      have f9 := am_LsI eh11 f9
      refine Ev.iconst (v := 1) (am_dt kX10_reads 152 rfl) (by decide) ?_
      refine Ev.istore_n (lv' := [(2, .int 1), (0, .ref a0), (1, .int x1)]) (am_dt kX10_reads 153 rfl) rfl (by decide) rfl ?_
      refine Ev.goto (tgt := 424) (am_dt kX10_reads 154 rfl) (by decide) ?_
      refine Ev.aload_n 1 (am_dt kX10_reads 214 rfl) rfl rfl ?_
      refine Ev.callV (ci := 10) (v := mX10_nextToken) (As := []) (st := []) okX10_nextToken wd_623 wd_624 wd_625 (am_dt kX10_reads 215 rfl) (by decide) rfl rfl (Nat.le_of_ble_eq_true rfl) (Nat.le_of_ble_eq_true rfl) f9.1 ?_
      refine EvM.mono k (fun r13 h12 k => ?_)
      obtain ⟨rfl, k⟩ := k
      show Ev w _ _ _ 428 _ [] _ _
      refine Ev.goto (tgt := 11) (am_dt kX10_reads 216 rfl) (by decide) ?_
      exact Ev.sub [1, 2, 0] rfl k
    · have k := k.2 c
      refine Ev.bipush (v := 24) (am_dt kX10_reads 143 rfl) (by decide) ?_
      refine Ev.goto (tgt := 289) (am_dt kX10_reads 144 rfl) (by decide) ?_
      obtain ⟨f14, k⟩ := k
      refine Ev.callV (ci := 10) (v := mX10_puts) (As := [.int 24]) (st := []) okX10_puts wd_620 wd_621 wd_622 (am_dt kX10_reads 146 rfl) (by decide) rfl rfl (Nat.le_of_ble_eq_true rfl) (Nat.le_of_ble_eq_true rfl) f14.1 ?_
      refine EvM.mono k (fun r16 h15 k => ?_)
      obtain ⟨rfl, k⟩ := k
      show Ev w _ _ _ 292 _ [] _ _
      refine Ev.aload_n 0 (am_dt kX10_reads 147 rfl) rfl rfl ?_
      obtain ⟨f17, k⟩ := k
      refine Ev.getRe (ci := 10) (k := 24) (r := a0 + 14) (am_dt kX10_reads 148 rfl) (by decide) (by decide) rfl wd_555 f17.1 (am_L.r f17 13 rfl) (by omega) ?_
      refine Ev.iload_n 1 (am_dt kX10_reads 149 rfl) rfl rfl ?_
      refine Ev.iconst (v := 1) (am_dt kX10_reads 150 rfl) (by decide) ?_
      obtain ⟨f18, k⟩ := k
      refine Ev.zast' (am_dt kX10_reads 151 rfl) (am_L.s f17 13 rfl) f18 rfl (fun h19 eh19 => ?_)
      have k := k h19 eh19
      have f17 := am_LsI eh19 f17
      refine Ev.iconst (v := 1) (am_dt kX10_reads 152 rfl) (by decide) ?_
      refine Ev.istore_n (lv' := [(2, .int 1), (0, .ref a0), (1, .int x1)]) (am_dt kX10_reads 153 rfl) rfl (by decide) rfl ?_
      refine Ev.goto (tgt := 424) (am_dt kX10_reads 154 rfl) (by decide) ?_
      refine Ev.aload_n 1 (am_dt kX10_reads 214 rfl) rfl rfl ?_
      refine Ev.callV (ci := 10) (v := mX10_nextToken) (As := []) (st := []) okX10_nextToken wd_623 wd_624 wd_625 (am_dt kX10_reads 215 rfl) (by decide) rfl rfl (Nat.le_of_ble_eq_true rfl) (Nat.le_of_ble_eq_true rfl) f17.1 ?_
      refine EvM.mono k (fun r21 h20 k => ?_)
      obtain ⟨rfl, k⟩ := k
      show Ev w _ _ _ 428 _ [] _ _
      refine Ev.goto (tgt := 11) (am_dt kX10_reads 216 rfl) (by decide) ?_
      exact Ev.sub [1, 2, 0] rfl k
set_option maxRecDepth 20000 in
set_option maxHeartbeats 2000000 in
theorem bX10_reads_206 {w : am_W} {d : Nat} {h : am_H} {Q : Option Value → am_H → Prop} {a0 : Nat} {x1 : Int32}  (k : (am_L 10 a0 h) ∧ (EvM w mX10_isSign d [.ref a0, .int 43] h (fun r3 h2 => ∃ v4 : Int32, r3 = some (.int v4) ∧ ((v4 = 0 → ((am_L 10 a0 h2) ∧ (EvM w mX10_isSign d [.ref a0, .int 45] h2 (fun r7 h6 => ∃ v8 : Int32, r7 = some (.int v8) ∧ ((v8 = 0 → ((am_L 10 a0 h6) ∧ (EvM w mX10_puts d [.ref a0, .int 22] h6 (fun r11 h10 => r11 = none ∧ ((am_L 10 a0 h10) ∧ (EvM w mX10_nextToken d [.ref a0] h10 (fun r14 h13 => r14 = none ∧ (Ev w (am_Z w) mX10_reads (d + 1) 11 [(0, .ref a0), (1, .int x1), (2, .int 1)] [] h13 Q)))))))) ∧ (¬ v8 = 0 → ((am_L 10 a0 h6) ∧ (EvM w mX10_puts d [.ref a0, .int 21] h6 (fun r17 h16 => r17 = none ∧ ((am_L 10 a0 h16) ∧ (EvM w mX10_nextToken d [.ref a0] h16 (fun r20 h19 => r20 = none ∧ (Ev w (am_Z w) mX10_reads (d + 1) 11 [(0, .ref a0), (1, .int x1), (2, .int 1)] [] h19 Q))))))))))))) ∧ (¬ v4 = 0 → ((am_L 10 a0 h2) ∧ (EvM w mX10_puts d [.ref a0, .int 20] h2 (fun r23 h22 => r23 = none ∧ ((am_L 10 a0 h22) ∧ (EvM w mX10_nextToken d [.ref a0] h22 (fun r26 h25 => r26 = none ∧ (Ev w (am_Z w) mX10_reads (d + 1) 11 [(0, .ref a0), (1, .int x1), (2, .int 1)] [] h25 Q)))))))))))) : Ev w (am_Z w) mX10_reads (d + 1) 206 [(0, .ref a0), (1, .int x1)] [] h Q := by
  refine Ev.aload_n 0 (am_dt kX10_reads 107 rfl) rfl rfl ?_
  refine Ev.aload_n 0 (am_dt kX10_reads 108 rfl) rfl rfl ?_
  refine Ev.bipush (v := 43) (am_dt kX10_reads 109 rfl) (by decide) ?_
  obtain ⟨f1, k⟩ := k
  refine Ev.callV (ci := 10) (v := mX10_isSign) (As := [.int 43]) (st := [.ref a0]) okX10_isSign wd_605 wd_606 wd_607 (am_dt kX10_reads 110 rfl) (by decide) rfl rfl (Nat.le_of_ble_eq_true rfl) (Nat.le_of_ble_eq_true rfl) f1.1 ?_
  refine EvM.mono k (fun r3 h2 k => ?_)
  obtain ⟨v4, rfl, k⟩ := k
  show Ev w _ _ _ 213 _ [.int v4, .ref a0] _ _
  refine Ev.if_eq (tgt := 221) (am_dt kX10_reads 111 rfl) (by decide) (fun c => ?_) (fun c => ?_)
  · have k := k.1 c
    refine Ev.aload_n 0 (am_dt kX10_reads 114 rfl) rfl rfl ?_
    refine Ev.bipush (v := 45) (am_dt kX10_reads 115 rfl) (by decide) ?_
    obtain ⟨f5, k⟩ := k
    refine Ev.callV (ci := 10) (v := mX10_isSign) (As := [.int 45]) (st := [.ref a0]) okX10_isSign wd_605 wd_606 wd_607 (am_dt kX10_reads 116 rfl) (by decide) rfl rfl (Nat.le_of_ble_eq_true rfl) (Nat.le_of_ble_eq_true rfl) f5.1 ?_
    refine EvM.mono k (fun r7 h6 k => ?_)
    obtain ⟨v8, rfl, k⟩ := k
    show Ev w _ _ _ 227 _ [.int v8, .ref a0] _ _
    refine Ev.if_eq (tgt := 235) (am_dt kX10_reads 117 rfl) (by decide) (fun c => ?_) (fun c => ?_)
    · have k := k.1 c
      refine Ev.bipush (v := 22) (am_dt kX10_reads 120 rfl) (by decide) ?_
      obtain ⟨f9, k⟩ := k
      refine Ev.callV (ci := 10) (v := mX10_puts) (As := [.int 22]) (st := []) okX10_puts wd_620 wd_621 wd_622 (am_dt kX10_reads 121 rfl) (by decide) rfl rfl (Nat.le_of_ble_eq_true rfl) (Nat.le_of_ble_eq_true rfl) f9.1 ?_
      refine EvM.mono k (fun r11 h10 k => ?_)
      obtain ⟨rfl, k⟩ := k
      show Ev w _ _ _ 240 _ [] _ _
      refine Ev.iconst (v := 1) (am_dt kX10_reads 122 rfl) (by decide) ?_
      refine Ev.istore_n (lv' := [(2, .int 1), (0, .ref a0), (1, .int x1)]) (am_dt kX10_reads 123 rfl) rfl (by decide) rfl ?_
      refine Ev.goto (tgt := 424) (am_dt kX10_reads 124 rfl) (by decide) ?_
      refine Ev.aload_n 1 (am_dt kX10_reads 214 rfl) rfl rfl ?_
      obtain ⟨f12, k⟩ := k
      refine Ev.callV (ci := 10) (v := mX10_nextToken) (As := []) (st := []) okX10_nextToken wd_623 wd_624 wd_625 (am_dt kX10_reads 215 rfl) (by decide) rfl rfl (Nat.le_of_ble_eq_true rfl) (Nat.le_of_ble_eq_true rfl) f12.1 ?_
      refine EvM.mono k (fun r14 h13 k => ?_)
      obtain ⟨rfl, k⟩ := k
      show Ev w _ _ _ 428 _ [] _ _
      refine Ev.goto (tgt := 11) (am_dt kX10_reads 216 rfl) (by decide) ?_
      exact Ev.sub [1, 2, 0] rfl k
    · have k := k.2 c
      refine Ev.bipush (v := 21) (am_dt kX10_reads 118 rfl) (by decide) ?_
      refine Ev.goto (tgt := 237) (am_dt kX10_reads 119 rfl) (by decide) ?_
      obtain ⟨f15, k⟩ := k
      refine Ev.callV (ci := 10) (v := mX10_puts) (As := [.int 21]) (st := []) okX10_puts wd_620 wd_621 wd_622 (am_dt kX10_reads 121 rfl) (by decide) rfl rfl (Nat.le_of_ble_eq_true rfl) (Nat.le_of_ble_eq_true rfl) f15.1 ?_
      refine EvM.mono k (fun r17 h16 k => ?_)
      obtain ⟨rfl, k⟩ := k
      show Ev w _ _ _ 240 _ [] _ _
      refine Ev.iconst (v := 1) (am_dt kX10_reads 122 rfl) (by decide) ?_
      refine Ev.istore_n (lv' := [(2, .int 1), (0, .ref a0), (1, .int x1)]) (am_dt kX10_reads 123 rfl) rfl (by decide) rfl ?_
      refine Ev.goto (tgt := 424) (am_dt kX10_reads 124 rfl) (by decide) ?_
      refine Ev.aload_n 1 (am_dt kX10_reads 214 rfl) rfl rfl ?_
      obtain ⟨f18, k⟩ := k
      refine Ev.callV (ci := 10) (v := mX10_nextToken) (As := []) (st := []) okX10_nextToken wd_623 wd_624 wd_625 (am_dt kX10_reads 215 rfl) (by decide) rfl rfl (Nat.le_of_ble_eq_true rfl) (Nat.le_of_ble_eq_true rfl) f18.1 ?_
      refine EvM.mono k (fun r20 h19 k => ?_)
      obtain ⟨rfl, k⟩ := k
      show Ev w _ _ _ 428 _ [] _ _
      refine Ev.goto (tgt := 11) (am_dt kX10_reads 216 rfl) (by decide) ?_
      exact Ev.sub [1, 2, 0] rfl k
  · have k := k.2 c
    refine Ev.bipush (v := 20) (am_dt kX10_reads 112 rfl) (by decide) ?_
    refine Ev.goto (tgt := 237) (am_dt kX10_reads 113 rfl) (by decide) ?_
    obtain ⟨f21, k⟩ := k
    refine Ev.callV (ci := 10) (v := mX10_puts) (As := [.int 20]) (st := []) okX10_puts wd_620 wd_621 wd_622 (am_dt kX10_reads 121 rfl) (by decide) rfl rfl (Nat.le_of_ble_eq_true rfl) (Nat.le_of_ble_eq_true rfl) f21.1 ?_
    refine EvM.mono k (fun r23 h22 k => ?_)
    obtain ⟨rfl, k⟩ := k
    show Ev w _ _ _ 240 _ [] _ _
    refine Ev.iconst (v := 1) (am_dt kX10_reads 122 rfl) (by decide) ?_
    refine Ev.istore_n (lv' := [(2, .int 1), (0, .ref a0), (1, .int x1)]) (am_dt kX10_reads 123 rfl) rfl (by decide) rfl ?_
    refine Ev.goto (tgt := 424) (am_dt kX10_reads 124 rfl) (by decide) ?_
    refine Ev.aload_n 1 (am_dt kX10_reads 214 rfl) rfl rfl ?_
    obtain ⟨f24, k⟩ := k
    refine Ev.callV (ci := 10) (v := mX10_nextToken) (As := []) (st := []) okX10_nextToken wd_623 wd_624 wd_625 (am_dt kX10_reads 215 rfl) (by decide) rfl rfl (Nat.le_of_ble_eq_true rfl) (Nat.le_of_ble_eq_true rfl) f24.1 ?_
    refine EvM.mono k (fun r26 h25 k => ?_)
    obtain ⟨rfl, k⟩ := k
    show Ev w _ _ _ 428 _ [] _ _
    refine Ev.goto (tgt := 11) (am_dt kX10_reads 216 rfl) (by decide) ?_
    exact Ev.sub [1, 2, 0] rfl k
set_option maxRecDepth 20000 in
set_option maxHeartbeats 2000000 in
theorem bX10_reads_65 {w : am_W} {d : Nat} {h : am_H} {Q : Option Value → am_H → Prop} {a0 : Nat} {x1 : Int32} {x2 : Int32} {x3 : Int32} {x4 : Int32} {x5 : Int32}  (k : (x1 = 5 → ((am_L 10 a0 h) ∧ (EvM w mX10_fails d [.ref a0, .int 5] h (fun r3 h2 => ∃ v4 : Int32, r3 = some (.int v4) ∧ (narrow .boolean (.int v4) = .int v4 ∧ (Q (some (.int v4)) h2)))))) ∧ (¬ x1 = 5 → ((x4 = 0 → ((x5 = 0 → ((x3 ≤ 0 → ((am_L 10 a0 h) ∧ (EvM w mX10_puts d [.ref a0, .int (100 + (hI h a0 8))] h (fun r8 h7 => r8 = none ∧ (Ev w (am_Z w) mX10_reads (d + 1) 152 [(0, .ref a0), (1, .int x1), (2, .int 0)] [] h7 Q))))) ∧ (¬ x3 ≤ 0 → ((am_L 10 a0 h) ∧ (EvM w mX10_puts d [.ref a0, .int x3] h (fun r11 h10 => r11 = none ∧ (Ev w (am_Z w) mX10_reads (d + 1) 152 [(0, .ref a0), (1, .int x1), (2, .int 0)] [] h10 Q))))))) ∧ (¬ x5 = 0 → ((x4 = 0 → (Ev w (am_Z w) mX10_reads (d + 1) 99 [(0, .ref a0), (1, .int x1), (2, .int x2), (4, .int x4)] [.int 28, .ref a0] h Q)) ∧ (¬ x4 = 0 → (Ev w (am_Z w) mX10_reads (d + 1) 99 [(0, .ref a0), (1, .int x1), (2, .int x2), (4, .int x4)] [.int 30, .ref a0] h Q)))))) ∧ (¬ x4 = 0 → ((x4 = 0 → (Ev w (am_Z w) mX10_reads (d + 1) 99 [(0, .ref a0), (1, .int x1), (2, .int x2), (4, .int x4)] [.int 28, .ref a0] h Q)) ∧ (¬ x4 = 0 → (Ev w (am_Z w) mX10_reads (d + 1) 99 [(0, .ref a0), (1, .int x1), (2, .int x2), (4, .int x4)] [.int 30, .ref a0] h Q))))))) : Ev w (am_Z w) mX10_reads (d + 1) 65 [(0, .ref a0), (1, .int x1), (2, .int x2), (3, .int x3), (4, .int x4), (5, .int x5)] [] h Q := by
  refine Ev.iload_n 1 (am_dt kX10_reads 36 rfl) rfl rfl ?_
  refine Ev.iconst (v := 5) (am_dt kX10_reads 37 rfl) (by decide) ?_
  refine Ev.icmp_ne (tgt := 76) (am_dt kX10_reads 38 rfl) (by decide) (fun c => ?_) (fun c => ?_)
  · have k := k.2 c
    refine Ev.iload 4 (am_dt kX10_reads 43 rfl) rfl ?_
    refine Ev.if_ne (tgt := 86) (am_dt kX10_reads 44 rfl) (by decide) (fun c => ?_) (fun c => ?_)
    · have k := k.2 c
      refine Ev.aload_n 0 (am_dt kX10_reads 47 rfl) rfl rfl ?_
      refine Ev.iload 4 (am_dt kX10_reads 48 rfl) rfl ?_
      refine Ev.if_eq (tgt := 97) (am_dt kX10_reads 49 rfl) (by decide) (fun c => ?_) (fun c => ?_)
      · have k := k.1 c
        refine Ev.bipush (v := 28) (am_dt kX10_reads 52 rfl) (by decide) ?_
        exact Ev.sub [0, 1, 2, 4] rfl k
      · have k := k.2 c
        refine Ev.bipush (v := 30) (am_dt kX10_reads 50 rfl) (by decide) ?_
        refine Ev.goto (tgt := 99) (am_dt kX10_reads 51 rfl) (by decide) ?_
        exact Ev.sub [0, 1, 2, 4] rfl k
    · have k := k.1 c
      refine Ev.iload 5 (am_dt kX10_reads 45 rfl) rfl ?_
      refine Ev.if_eq (tgt := 131) (am_dt kX10_reads 46 rfl) (by decide) (fun c => ?_) (fun c => ?_)
      · have k := k.1 c
        refine Ev.aload_n 0 (am_dt kX10_reads 70 rfl) rfl rfl ?_
        refine Ev.iload_n 3 (am_dt kX10_reads 71 rfl) rfl rfl ?_
        refine Ev.if_le (tgt := 140) (am_dt kX10_reads 72 rfl) (by decide) (fun c => ?_) (fun c => ?_)
        · have k := k.1 c
          refine Ev.bipush (v := 100) (am_dt kX10_reads 75 rfl) (by decide) ?_
          refine Ev.aload_n 0 (am_dt kX10_reads 76 rfl) rfl rfl ?_
          obtain ⟨f6, k⟩ := k
          refine Ev.getI (ci := 10) (k := 8) (am_dt kX10_reads 77 rfl) (by decide) (by decide) rfl wd_590 f6.1 ?_
          refine Ev.iadd (am_dt kX10_reads 78 rfl) ?_
          refine Ev.callV (ci := 10) (v := mX10_puts) (As := [.int (100 + (hI h a0 8))]) (st := []) okX10_puts wd_620 wd_621 wd_622 (am_dt kX10_reads 79 rfl) (by decide) rfl rfl (Nat.le_of_ble_eq_true rfl) (Nat.le_of_ble_eq_true rfl) f6.1 ?_
          refine EvM.mono k (fun r8 h7 k => ?_)
          obtain ⟨rfl, k⟩ := k
          show Ev w _ _ _ 150 _ [] _ _
          refine Ev.iconst (v := 0) (am_dt kX10_reads 80 rfl) (by decide) ?_
          refine Ev.istore_n (lv' := [(2, .int 0), (0, .ref a0), (1, .int x1), (3, .int x3), (4, .int x4), (5, .int x5)]) (am_dt kX10_reads 81 rfl) rfl (by decide) rfl ?_
          exact Ev.sub [1, 2, 0] rfl k
        · have k := k.2 c
          refine Ev.iload_n 3 (am_dt kX10_reads 73 rfl) rfl rfl ?_
          refine Ev.goto (tgt := 147) (am_dt kX10_reads 74 rfl) (by decide) ?_
          obtain ⟨f9, k⟩ := k
          refine Ev.callV (ci := 10) (v := mX10_puts) (As := [.int x3]) (st := []) okX10_puts wd_620 wd_621 wd_622 (am_dt kX10_reads 79 rfl) (by decide) rfl rfl (Nat.le_of_ble_eq_true rfl) (Nat.le_of_ble_eq_true rfl) f9.1 ?_
          refine EvM.mono k (fun r11 h10 k => ?_)
          obtain ⟨rfl, k⟩ := k
          show Ev w _ _ _ 150 _ [] _ _
          refine Ev.iconst (v := 0) (am_dt kX10_reads 80 rfl) (by decide) ?_
          refine Ev.istore_n (lv' := [(2, .int 0), (0, .ref a0), (1, .int x1), (3, .int x3), (4, .int x4), (5, .int x5)]) (am_dt kX10_reads 81 rfl) rfl (by decide) rfl ?_
          exact Ev.sub [1, 2, 0] rfl k
      · have k := k.2 c
        refine Ev.aload_n 0 (am_dt kX10_reads 47 rfl) rfl rfl ?_
        refine Ev.iload 4 (am_dt kX10_reads 48 rfl) rfl ?_
        refine Ev.if_eq (tgt := 97) (am_dt kX10_reads 49 rfl) (by decide) (fun c => ?_) (fun c => ?_)
        · have k := k.1 c
          refine Ev.bipush (v := 28) (am_dt kX10_reads 52 rfl) (by decide) ?_
          exact Ev.sub [0, 1, 2, 4] rfl k
        · have k := k.2 c
          refine Ev.bipush (v := 30) (am_dt kX10_reads 50 rfl) (by decide) ?_
          refine Ev.goto (tgt := 99) (am_dt kX10_reads 51 rfl) (by decide) ?_
          exact Ev.sub [0, 1, 2, 4] rfl k
  · have k := k.1 c
    refine Ev.aload_n 0 (am_dt kX10_reads 39 rfl) rfl rfl ?_
    refine Ev.iconst (v := 5) (am_dt kX10_reads 40 rfl) (by decide) ?_
    obtain ⟨f1, k⟩ := k
    refine Ev.callV (ci := 10) (v := mX10_fails) (As := [.int 5]) (st := []) okX10_fails wd_615 wd_616 wd_617 (am_dt kX10_reads 41 rfl) (by decide) rfl rfl (Nat.le_of_ble_eq_true rfl) (Nat.le_of_ble_eq_true rfl) f1.1 ?_
    refine EvM.mono k (fun r3 h2 k => ?_)
    obtain ⟨v4, rfl, k⟩ := k
    show Ev w _ _ _ 75 _ [.int v4] _ _
    exact Ev.iret .boolean (am_dt kX10_reads 42 rfl) rfl k.1 k.2
set_option maxRecDepth 20000 in
set_option maxHeartbeats 2000000 in
theorem bX10_reads_399 {w : am_W} {d : Nat} {h : am_H} {Q : Option Value → am_H → Prop} {a0 : Nat} {x1 : Int32}  (k : (x1 = 0 → ((am_L 10 a0 h) ∧ (EvM w mX10_isSign d [.ref a0, .int 59] h (fun r3 h2 => ∃ v4 : Int32, r3 = some (.int v4) ∧ ((v4 = 0 → ((am_L 10 a0 h2) ∧ (EvM w mX10_fails d [.ref a0, .int 1] h2 (fun r7 h6 => ∃ v8 : Int32, r7 = some (.int v8) ∧ (narrow .boolean (.int v8) = .int v8 ∧ (Q (some (.int v8)) h6)))))) ∧ (¬ v4 = 0 → ((am_L 10 a0 h2) ∧ (EvM w mX10_nextToken d [.ref a0] h2 (fun r12 h11 => r12 = none ∧ (Q (some (.int 1)) h11)))))))))) ∧ (¬ x1 = 0 → ((am_L 10 a0 h) ∧ (EvM w mX10_fails d [.ref a0, .int 1] h (fun r15 h14 => ∃ v16 : Int32, r15 = some (.int v16) ∧ (narrow .boolean (.int v16) = .int v16 ∧ (Q (some (.int v16)) h14))))))) : Ev w (am_Z w) mX10_reads (d + 1) 399 [(0, .ref a0), (1, .int x1)] [] h Q := by
  refine Ev.iload_n 1 (am_dt kX10_reads 200 rfl) rfl rfl ?_
  refine Ev.if_ne (tgt := 418) (am_dt kX10_reads 201 rfl) (by decide) (fun c => ?_) (fun c => ?_)
  · have k := k.2 c
    refine Ev.aload_n 0 (am_dt kX10_reads 210 rfl) rfl rfl ?_
    refine Ev.iconst (v := 1) (am_dt kX10_reads 211 rfl) (by decide) ?_
    obtain ⟨f13, k⟩ := k
    refine Ev.callV (ci := 10) (v := mX10_fails) (As := [.int 1]) (st := []) okX10_fails wd_615 wd_616 wd_617 (am_dt kX10_reads 212 rfl) (by decide) rfl rfl (Nat.le_of_ble_eq_true rfl) (Nat.le_of_ble_eq_true rfl) f13.1 ?_
    refine EvM.mono k (fun r15 h14 k => ?_)
    obtain ⟨v16, rfl, k⟩ := k
    show Ev w _ _ _ 423 _ [.int v16] _ _
    exact Ev.iret .boolean (am_dt kX10_reads 213 rfl) rfl k.1 k.2
  · have k := k.1 c
    refine Ev.aload_n 0 (am_dt kX10_reads 202 rfl) rfl rfl ?_
    refine Ev.bipush (v := 59) (am_dt kX10_reads 203 rfl) (by decide) ?_
    obtain ⟨f1, k⟩ := k
    refine Ev.callV (ci := 10) (v := mX10_isSign) (As := [.int 59]) (st := []) okX10_isSign wd_605 wd_606 wd_607 (am_dt kX10_reads 204 rfl) (by decide) rfl rfl (Nat.le_of_ble_eq_true rfl) (Nat.le_of_ble_eq_true rfl) f1.1 ?_
    refine EvM.mono k (fun r3 h2 k => ?_)
    obtain ⟨v4, rfl, k⟩ := k
    show Ev w _ _ _ 409 _ [.int v4] _ _
    refine Ev.if_eq (tgt := 418) (am_dt kX10_reads 205 rfl) (by decide) (fun c => ?_) (fun c => ?_)
    · have k := k.1 c
      refine Ev.aload_n 0 (am_dt kX10_reads 210 rfl) rfl rfl ?_
      refine Ev.iconst (v := 1) (am_dt kX10_reads 211 rfl) (by decide) ?_
      obtain ⟨f5, k⟩ := k
      refine Ev.callV (ci := 10) (v := mX10_fails) (As := [.int 1]) (st := []) okX10_fails wd_615 wd_616 wd_617 (am_dt kX10_reads 212 rfl) (by decide) rfl rfl (Nat.le_of_ble_eq_true rfl) (Nat.le_of_ble_eq_true rfl) f5.1 ?_
      refine EvM.mono k (fun r7 h6 k => ?_)
      obtain ⟨v8, rfl, k⟩ := k
      show Ev w _ _ _ 423 _ [.int v8] _ _
      exact Ev.iret .boolean (am_dt kX10_reads 213 rfl) rfl k.1 k.2
    · have k := k.2 c
      refine Ev.aload_n 0 (am_dt kX10_reads 206 rfl) rfl rfl ?_
      obtain ⟨f10, k⟩ := k
      refine Ev.callV (ci := 10) (v := mX10_nextToken) (As := []) (st := []) okX10_nextToken wd_623 wd_624 wd_625 (am_dt kX10_reads 207 rfl) (by decide) rfl rfl (Nat.le_of_ble_eq_true rfl) (Nat.le_of_ble_eq_true rfl) f10.1 ?_
      refine EvM.mono k (fun r12 h11 k => ?_)
      obtain ⟨rfl, k⟩ := k
      show Ev w _ _ _ 416 _ [] _ _
      refine Ev.iconst (v := 1) (am_dt kX10_reads 208 rfl) (by decide) ?_
      exact Ev.iret .boolean (am_dt kX10_reads 209 rfl) rfl rfl k
set_option maxRecDepth 20000 in
set_option maxHeartbeats 2000000 in
theorem bX10_reads_379 {w : am_W} {d : Nat} {h : am_H} {Q : Option Value → am_H → Prop} {a0 : Nat} {x1 : Int32} {x2 : Int32}  (k : (x1 ≤ 0 → ((am_L 10 a0 h) ∧ (EvM w mX10_nextToken d [.ref a0] h (fun r3 h2 => r3 = none ∧ (Ev w (am_Z w) mX10_reads (d + 1) 11 [(0, .ref a0), (1, .int x1), (2, .int x2)] [] h2 Q))))) ∧ (¬ x1 ≤ 0 → ((am_L 10 a0 h) ∧ ((vp_in x1 (hN h (a0 + 13))) ∧ (((hI h (a0 + 13) (Int32.toNatClampNeg x1)) = 1 → (Ev w (am_Z w) mX10_reads (d + 1) 379 [(0, .ref a0), (1, .int (x1 + (-1))), (2, .int x2)] [] h Q)) ∧ (¬ (hI h (a0 + 13) (Int32.toNatClampNeg x1)) = 1 → (EvM w mX10_nextToken d [.ref a0] h (fun r7 h6 => r7 = none ∧ (Ev w (am_Z w) mX10_reads (d + 1) 11 [(0, .ref a0), (1, .int x1), (2, .int x2)] [] h6 Q))))))))) : Ev w (am_Z w) mX10_reads (d + 1) 379 [(0, .ref a0), (1, .int x1), (2, .int x2)] [] h Q := by
  refine Ev.iload_n 1 (am_dt kX10_reads 190 rfl) rfl rfl ?_
  refine Ev.if_le (tgt := 424) (am_dt kX10_reads 191 rfl) (by decide) (fun c => ?_) (fun c => ?_)
  · have k := k.1 c
    refine Ev.aload_n 0 (am_dt kX10_reads 214 rfl) rfl rfl ?_
    obtain ⟨f1, k⟩ := k
    refine Ev.callV (ci := 10) (v := mX10_nextToken) (As := []) (st := []) okX10_nextToken wd_623 wd_624 wd_625 (am_dt kX10_reads 215 rfl) (by decide) rfl rfl (Nat.le_of_ble_eq_true rfl) (Nat.le_of_ble_eq_true rfl) f1.1 ?_
    refine EvM.mono k (fun r3 h2 k => ?_)
    obtain ⟨rfl, k⟩ := k
    show Ev w _ _ _ 428 _ [] _ _
    refine Ev.goto (tgt := 11) (am_dt kX10_reads 216 rfl) (by decide) ?_
    exact k
  · have k := k.2 c
    refine Ev.aload_n 0 (am_dt kX10_reads 192 rfl) rfl rfl ?_
    obtain ⟨f4, k⟩ := k
    refine Ev.getRe (ci := 10) (k := 23) (r := a0 + 13) (am_dt kX10_reads 193 rfl) (by decide) (by decide) rfl wd_554 f4.1 (am_L.r f4 12 rfl) (by omega) ?_
    refine Ev.iload_n 1 (am_dt kX10_reads 194 rfl) rfl rfl ?_
    obtain ⟨f5, k⟩ := k
    refine Ev.iald (am_dt kX10_reads 195 rfl) (am_L.s f4 12 rfl) f5 ?_
    refine Ev.iconst (v := 1) (am_dt kX10_reads 196 rfl) (by decide) ?_
    refine Ev.icmp_ne (tgt := 424) (am_dt kX10_reads 197 rfl) (by decide) (fun c => ?_) (fun c => ?_)
    · have k := k.2 c
      refine Ev.aload_n 0 (am_dt kX10_reads 214 rfl) rfl rfl ?_
      refine Ev.callV (ci := 10) (v := mX10_nextToken) (As := []) (st := []) okX10_nextToken wd_623 wd_624 wd_625 (am_dt kX10_reads 215 rfl) (by decide) rfl rfl (Nat.le_of_ble_eq_true rfl) (Nat.le_of_ble_eq_true rfl) f4.1 ?_
      refine EvM.mono k (fun r7 h6 k => ?_)
      obtain ⟨rfl, k⟩ := k
      show Ev w _ _ _ 428 _ [] _ _
      refine Ev.goto (tgt := 11) (am_dt kX10_reads 216 rfl) (by decide) ?_
      exact k
    · have k := k.1 c
      refine Ev.iinc (v := x1 + (-1)) (lv' := [(1, .int (x1 + (-1))), (0, .ref a0), (2, .int x2)]) 1 (am_dt kX10_reads 198 rfl) rfl rfl (by decide) rfl ?_
      refine Ev.goto (tgt := 379) (am_dt kX10_reads 199 rfl) (by decide) ?_
      exact Ev.sub [1, 0, 2] rfl k
set_option maxRecDepth 20000 in
set_option maxHeartbeats 2000000 in
theorem bX10_reads_324 {w : am_W} {d : Nat} {h : am_H} {Q : Option Value → am_H → Prop} {a0 : Nat} {x1 : Int32}  (k : (am_L 10 a0 h) ∧ (EvM w mX10_isWord d [.ref a0, .long 1111] h (fun r3 h2 => ∃ v4 : Int32, r3 = some (.int v4) ∧ ((v4 = 0 → ((am_L 10 a0 h2) ∧ (EvM w mX10_puts d [.ref a0, .int 27] h2 (fun r7 h6 => r7 = none ∧ ((am_L 10 a0 h6) ∧ ((vp_in x1 (hN h6 (a0 + 14))) ∧ (∀ h10 : am_H, h10 = sI h6 (a0 + 14) (Int32.toNatClampNeg x1) 0 → (EvM w mX10_nextToken d [.ref a0] h10 (fun r12 h11 => r12 = none ∧ (Ev w (am_Z w) mX10_reads (d + 1) 11 [(0, .ref a0), (1, .int x1), (2, .int 1)] [] h11 Q)))))))))) ∧ (¬ v4 = 0 → ((am_L 10 a0 h2) ∧ (EvM w mX10_puts d [.ref a0, .int 26] h2 (fun r15 h14 => r15 = none ∧ ((am_L 10 a0 h14) ∧ ((vp_in x1 (hN h14 (a0 + 14))) ∧ (∀ h18 : am_H, h18 = sI h14 (a0 + 14) (Int32.toNatClampNeg x1) 0 → (EvM w mX10_nextToken d [.ref a0] h18 (fun r20 h19 => r20 = none ∧ (Ev w (am_Z w) mX10_reads (d + 1) 11 [(0, .ref a0), (1, .int x1), (2, .int 1)] [] h19 Q)))))))))))))) : Ev w (am_Z w) mX10_reads (d + 1) 324 [(0, .ref a0), (1, .int x1)] [] h Q := by
  refine Ev.aload_n 0 (am_dt kX10_reads 163 rfl) rfl rfl ?_
  refine Ev.aload_n 0 (am_dt kX10_reads 164 rfl) rfl rfl ?_
  refine Ev.ldc2 (v := 1111) (am_dt kX10_reads 165 rfl) wd_618 ?_
  obtain ⟨f1, k⟩ := k
  refine Ev.callV (ci := 10) (v := mX10_isWord) (As := [.long 1111]) (st := [.ref a0]) okX10_isWord wd_612 wd_613 wd_614 (am_dt kX10_reads 166 rfl) (by decide) rfl rfl (Nat.le_of_ble_eq_true rfl) (Nat.le_of_ble_eq_true rfl) f1.1 ?_
  refine EvM.mono k (fun r3 h2 k => ?_)
  obtain ⟨v4, rfl, k⟩ := k
  show Ev w _ _ _ 332 _ [.int v4, .ref a0] _ _
  refine Ev.if_eq (tgt := 340) (am_dt kX10_reads 167 rfl) (by decide) (fun c => ?_) (fun c => ?_)
  · have k := k.1 c
    refine Ev.bipush (v := 27) (am_dt kX10_reads 170 rfl) (by decide) ?_
    obtain ⟨f5, k⟩ := k
    refine Ev.callV (ci := 10) (v := mX10_puts) (As := [.int 27]) (st := []) okX10_puts wd_620 wd_621 wd_622 (am_dt kX10_reads 171 rfl) (by decide) rfl rfl (Nat.le_of_ble_eq_true rfl) (Nat.le_of_ble_eq_true rfl) f5.1 ?_
    refine EvM.mono k (fun r7 h6 k => ?_)
    obtain ⟨rfl, k⟩ := k
    show Ev w _ _ _ 345 _ [] _ _
    refine Ev.aload_n 0 (am_dt kX10_reads 172 rfl) rfl rfl ?_
    obtain ⟨f8, k⟩ := k
    refine Ev.getRe (ci := 10) (k := 24) (r := a0 + 14) (am_dt kX10_reads 173 rfl) (by decide) (by decide) rfl wd_555 f8.1 (am_L.r f8 13 rfl) (by omega) ?_
    refine Ev.iload_n 1 (am_dt kX10_reads 174 rfl) rfl rfl ?_
    refine Ev.iconst (v := 0) (am_dt kX10_reads 175 rfl) (by decide) ?_
    obtain ⟨f9, k⟩ := k
    refine Ev.zast' (am_dt kX10_reads 176 rfl) (am_L.s f8 13 rfl) f9 rfl (fun h10 eh10 => ?_)
    have k := k h10 eh10
    have f8 := am_LsI eh10 f8
    refine Ev.iconst (v := 1) (am_dt kX10_reads 177 rfl) (by decide) ?_
    refine Ev.istore_n (lv' := [(2, .int 1), (0, .ref a0), (1, .int x1)]) (am_dt kX10_reads 178 rfl) rfl (by decide) rfl ?_
    refine Ev.goto (tgt := 424) (am_dt kX10_reads 179 rfl) (by decide) ?_
    refine Ev.aload_n 1 (am_dt kX10_reads 214 rfl) rfl rfl ?_
    refine Ev.callV (ci := 10) (v := mX10_nextToken) (As := []) (st := []) okX10_nextToken wd_623 wd_624 wd_625 (am_dt kX10_reads 215 rfl) (by decide) rfl rfl (Nat.le_of_ble_eq_true rfl) (Nat.le_of_ble_eq_true rfl) f8.1 ?_
    refine EvM.mono k (fun r12 h11 k => ?_)
    obtain ⟨rfl, k⟩ := k
    show Ev w _ _ _ 428 _ [] _ _
    refine Ev.goto (tgt := 11) (am_dt kX10_reads 216 rfl) (by decide) ?_
    exact Ev.sub [1, 2, 0] rfl k
  · have k := k.2 c
    refine Ev.bipush (v := 26) (am_dt kX10_reads 168 rfl) (by decide) ?_
    refine Ev.goto (tgt := 342) (am_dt kX10_reads 169 rfl) (by decide) ?_
    obtain ⟨f13, k⟩ := k
    refine Ev.callV (ci := 10) (v := mX10_puts) (As := [.int 26]) (st := []) okX10_puts wd_620 wd_621 wd_622 (am_dt kX10_reads 171 rfl) (by decide) rfl rfl (Nat.le_of_ble_eq_true rfl) (Nat.le_of_ble_eq_true rfl) f13.1 ?_
    refine EvM.mono k (fun r15 h14 k => ?_)
    obtain ⟨rfl, k⟩ := k
    show Ev w _ _ _ 345 _ [] _ _
    refine Ev.aload_n 0 (am_dt kX10_reads 172 rfl) rfl rfl ?_
    obtain ⟨f16, k⟩ := k
    refine Ev.getRe (ci := 10) (k := 24) (r := a0 + 14) (am_dt kX10_reads 173 rfl) (by decide) (by decide) rfl wd_555 f16.1 (am_L.r f16 13 rfl) (by omega) ?_
    refine Ev.iload_n 1 (am_dt kX10_reads 174 rfl) rfl rfl ?_
    refine Ev.iconst (v := 0) (am_dt kX10_reads 175 rfl) (by decide) ?_
    obtain ⟨f17, k⟩ := k
    refine Ev.zast' (am_dt kX10_reads 176 rfl) (am_L.s f16 13 rfl) f17 rfl (fun h18 eh18 => ?_)
    have k := k h18 eh18
    have f16 := am_LsI eh18 f16
    refine Ev.iconst (v := 1) (am_dt kX10_reads 177 rfl) (by decide) ?_
    refine Ev.istore_n (lv' := [(2, .int 1), (0, .ref a0), (1, .int x1)]) (am_dt kX10_reads 178 rfl) rfl (by decide) rfl ?_
    refine Ev.goto (tgt := 424) (am_dt kX10_reads 179 rfl) (by decide) ?_
    refine Ev.aload_n 1 (am_dt kX10_reads 214 rfl) rfl rfl ?_
    refine Ev.callV (ci := 10) (v := mX10_nextToken) (As := []) (st := []) okX10_nextToken wd_623 wd_624 wd_625 (am_dt kX10_reads 215 rfl) (by decide) rfl rfl (Nat.le_of_ble_eq_true rfl) (Nat.le_of_ble_eq_true rfl) f16.1 ?_
    refine EvM.mono k (fun r20 h19 k => ?_)
    obtain ⟨rfl, k⟩ := k
    show Ev w _ _ _ 428 _ [] _ _
    refine Ev.goto (tgt := 11) (am_dt kX10_reads 216 rfl) (by decide) ?_
    exact Ev.sub [1, 2, 0] rfl k
set_option maxRecDepth 20000 in
set_option maxHeartbeats 2000000 in
theorem bX10_reads_152 {w : am_W} {d : Nat} {h : am_H} {Q : Option Value → am_H → Prop} {a0 : Nat} {x1 : Int32} {x2 : Int32}  (k : (x1 ≤ 0 → ((am_L 10 a0 h) ∧ (EvM w mX10_nextToken d [.ref a0] h (fun r3 h2 => r3 = none ∧ (Ev w (am_Z w) mX10_reads (d + 1) 11 [(0, .ref a0), (1, .int x1), (2, .int x2)] [] h2 Q))))) ∧ (¬ x1 ≤ 0 → ((am_L 10 a0 h) ∧ ((vp_in x1 (hN h (a0 + 13))) ∧ (((hI h (a0 + 13) (Int32.toNatClampNeg x1)) = 1 → (Ev w (am_Z w) mX10_reads (d + 1) 152 [(0, .ref a0), (1, .int (x1 + (-1))), (2, .int x2)] [] h Q)) ∧ (¬ (hI h (a0 + 13) (Int32.toNatClampNeg x1)) = 1 → (EvM w mX10_nextToken d [.ref a0] h (fun r7 h6 => r7 = none ∧ (Ev w (am_Z w) mX10_reads (d + 1) 11 [(0, .ref a0), (1, .int x1), (2, .int x2)] [] h6 Q))))))))) : Ev w (am_Z w) mX10_reads (d + 1) 152 [(0, .ref a0), (1, .int x1), (2, .int x2)] [] h Q := by
  refine Ev.iload_n 1 (am_dt kX10_reads 82 rfl) rfl rfl ?_
  refine Ev.if_le (tgt := 172) (am_dt kX10_reads 83 rfl) (by decide) (fun c => ?_) (fun c => ?_)
  · have k := k.1 c
    refine Ev.aload_n 0 (am_dt kX10_reads 92 rfl) rfl rfl ?_
    obtain ⟨f1, k⟩ := k
    refine Ev.callV (ci := 10) (v := mX10_nextToken) (As := []) (st := []) okX10_nextToken wd_623 wd_624 wd_625 (am_dt kX10_reads 93 rfl) (by decide) rfl rfl (Nat.le_of_ble_eq_true rfl) (Nat.le_of_ble_eq_true rfl) f1.1 ?_
    refine EvM.mono k (fun r3 h2 k => ?_)
    obtain ⟨rfl, k⟩ := k
    show Ev w _ _ _ 176 _ [] _ _
    refine Ev.goto (tgt := 11) (am_dt kX10_reads 94 rfl) (by decide) ?_
    exact k
  · have k := k.2 c
    refine Ev.aload_n 0 (am_dt kX10_reads 84 rfl) rfl rfl ?_
    obtain ⟨f4, k⟩ := k
    refine Ev.getRe (ci := 10) (k := 23) (r := a0 + 13) (am_dt kX10_reads 85 rfl) (by decide) (by decide) rfl wd_554 f4.1 (am_L.r f4 12 rfl) (by omega) ?_
    refine Ev.iload_n 1 (am_dt kX10_reads 86 rfl) rfl rfl ?_
    obtain ⟨f5, k⟩ := k
    refine Ev.iald (am_dt kX10_reads 87 rfl) (am_L.s f4 12 rfl) f5 ?_
    refine Ev.iconst (v := 1) (am_dt kX10_reads 88 rfl) (by decide) ?_
    refine Ev.icmp_ne (tgt := 172) (am_dt kX10_reads 89 rfl) (by decide) (fun c => ?_) (fun c => ?_)
    · have k := k.2 c
      refine Ev.aload_n 0 (am_dt kX10_reads 92 rfl) rfl rfl ?_
      refine Ev.callV (ci := 10) (v := mX10_nextToken) (As := []) (st := []) okX10_nextToken wd_623 wd_624 wd_625 (am_dt kX10_reads 93 rfl) (by decide) rfl rfl (Nat.le_of_ble_eq_true rfl) (Nat.le_of_ble_eq_true rfl) f4.1 ?_
      refine EvM.mono k (fun r7 h6 k => ?_)
      obtain ⟨rfl, k⟩ := k
      show Ev w _ _ _ 176 _ [] _ _
      refine Ev.goto (tgt := 11) (am_dt kX10_reads 94 rfl) (by decide) ?_
      exact k
    · have k := k.1 c
      refine Ev.iinc (v := x1 + (-1)) (lv' := [(1, .int (x1 + (-1))), (0, .ref a0), (2, .int x2)]) 1 (am_dt kX10_reads 90 rfl) rfl rfl (by decide) rfl ?_
      refine Ev.goto (tgt := 152) (am_dt kX10_reads 91 rfl) (by decide) ?_
      exact Ev.sub [1, 0, 2] rfl k
set_option maxRecDepth 20000 in
set_option maxHeartbeats 2000000 in
theorem bX10_reads_99 {w : am_W} {d : Nat} {h : am_H} {Q : Option Value → am_H → Prop} {a0 : Nat} {x1 : Int32} {x2 : Int32} {x4 : Int32} {s0 : Int32} {s1 : Nat} (k : (am_L 10 s1 h) ∧ (EvM w mX10_puts d [.ref s1, .int s0] h (fun r3 h2 => r3 = none ∧ ((am_L 10 a0 h2) ∧ ((x4 = 0 → ((vp_in (x1 + 1) (hN h2 (a0 + 13))) ∧ (∀ h6 : am_H, h6 = sI h2 (a0 + 13) (Int32.toNatClampNeg (x1 + 1)) 2 → ((vp_in (x1 + 1) (hN h6 (a0 + 14))) ∧ (∀ h8 : am_H, h8 = sI h6 (a0 + 14) (Int32.toNatClampNeg (x1 + 1)) 0 → (EvM w mX10_nextToken d [.ref a0] h8 (fun r10 h9 => r10 = none ∧ (Ev w (am_Z w) mX10_reads (d + 1) 11 [(0, .ref a0), (1, .int (x1 + 1)), (2, .int x2)] [] h9 Q)))))))) ∧ (¬ x4 = 0 → ((vp_in (x1 + 1) (hN h2 (a0 + 13))) ∧ (∀ h12 : am_H, h12 = sI h2 (a0 + 13) (Int32.toNatClampNeg (x1 + 1)) 1 → ((vp_in (x1 + 1) (hN h12 (a0 + 14))) ∧ (∀ h14 : am_H, h14 = sI h12 (a0 + 14) (Int32.toNatClampNeg (x1 + 1)) 0 → (EvM w mX10_nextToken d [.ref a0] h14 (fun r16 h15 => r16 = none ∧ (Ev w (am_Z w) mX10_reads (d + 1) 11 [(0, .ref a0), (1, .int (x1 + 1)), (2, .int x2)] [] h15 Q))))))))))))) : Ev w (am_Z w) mX10_reads (d + 1) 99 [(0, .ref a0), (1, .int x1), (2, .int x2), (4, .int x4)] [.int s0, .ref s1] h Q := by
  obtain ⟨f1, k⟩ := k
  refine Ev.callV (ci := 10) (v := mX10_puts) (As := [.int s0]) (st := []) okX10_puts wd_620 wd_621 wd_622 (am_dt kX10_reads 53 rfl) (by decide) rfl rfl (Nat.le_of_ble_eq_true rfl) (Nat.le_of_ble_eq_true rfl) f1.1 ?_
  refine EvM.mono k (fun r3 h2 k => ?_)
  obtain ⟨rfl, k⟩ := k
  show Ev w _ _ _ 102 _ [] _ _
  refine Ev.iinc (v := x1 + 1) (lv' := [(1, .int (x1 + 1)), (0, .ref a0), (2, .int x2), (4, .int x4)]) 1 (am_dt kX10_reads 54 rfl) rfl rfl (by decide) rfl ?_
  refine Ev.aload_n 1 (am_dt kX10_reads 55 rfl) rfl rfl ?_
  obtain ⟨f4, k⟩ := k
  refine Ev.getRe (ci := 10) (k := 23) (r := a0 + 13) (am_dt kX10_reads 56 rfl) (by decide) (by decide) rfl wd_554 f4.1 (am_L.r f4 12 rfl) (by omega) ?_
  refine Ev.iload_n 0 (am_dt kX10_reads 57 rfl) rfl rfl ?_
  refine Ev.iload 3 (am_dt kX10_reads 58 rfl) rfl ?_
  refine Ev.if_eq (tgt := 119) (am_dt kX10_reads 59 rfl) (by decide) (fun c => ?_) (fun c => ?_)
  · have k := k.1 c
    refine Ev.iconst (v := 2) (am_dt kX10_reads 62 rfl) (by decide) ?_
    obtain ⟨f5, k⟩ := k
    refine Ev.iast' (am_dt kX10_reads 63 rfl) (am_L.s f4 12 rfl) f5 (fun h6 eh6 => ?_)
    have k := k h6 eh6
    have f4 := am_LsI eh6 f4
    refine Ev.aload_n 1 (am_dt kX10_reads 64 rfl) rfl rfl ?_
    refine Ev.getRe (ci := 10) (k := 24) (r := a0 + 14) (am_dt kX10_reads 65 rfl) (by decide) (by decide) rfl wd_555 f4.1 (am_L.r f4 13 rfl) (by omega) ?_
    refine Ev.iload_n 0 (am_dt kX10_reads 66 rfl) rfl rfl ?_
    refine Ev.iconst (v := 0) (am_dt kX10_reads 67 rfl) (by decide) ?_
    obtain ⟨f7, k⟩ := k
    refine Ev.zast' (am_dt kX10_reads 68 rfl) (am_L.s f4 13 rfl) f7 rfl (fun h8 eh8 => ?_)
    have k := k h8 eh8
    have f4 := am_LsI eh8 f4
    refine Ev.goto (tgt := 172) (am_dt kX10_reads 69 rfl) (by decide) ?_
    refine Ev.aload_n 1 (am_dt kX10_reads 92 rfl) rfl rfl ?_
    refine Ev.callV (ci := 10) (v := mX10_nextToken) (As := []) (st := []) okX10_nextToken wd_623 wd_624 wd_625 (am_dt kX10_reads 93 rfl) (by decide) rfl rfl (Nat.le_of_ble_eq_true rfl) (Nat.le_of_ble_eq_true rfl) f4.1 ?_
    refine EvM.mono k (fun r10 h9 k => ?_)
    obtain ⟨rfl, k⟩ := k
    show Ev w _ _ _ 176 _ [] _ _
    refine Ev.goto (tgt := 11) (am_dt kX10_reads 94 rfl) (by decide) ?_
    exact Ev.sub [1, 0, 2] rfl k
  · have k := k.2 c
    refine Ev.iconst (v := 1) (am_dt kX10_reads 60 rfl) (by decide) ?_
    refine Ev.goto (tgt := 120) (am_dt kX10_reads 61 rfl) (by decide) ?_
    obtain ⟨f11, k⟩ := k
    refine Ev.iast' (am_dt kX10_reads 63 rfl) (am_L.s f4 12 rfl) f11 (fun h12 eh12 => ?_)
    have k := k h12 eh12
    have f4 := am_LsI eh12 f4
    refine Ev.aload_n 1 (am_dt kX10_reads 64 rfl) rfl rfl ?_
    refine Ev.getRe (ci := 10) (k := 24) (r := a0 + 14) (am_dt kX10_reads 65 rfl) (by decide) (by decide) rfl wd_555 f4.1 (am_L.r f4 13 rfl) (by omega) ?_
    refine Ev.iload_n 0 (am_dt kX10_reads 66 rfl) rfl rfl ?_
    refine Ev.iconst (v := 0) (am_dt kX10_reads 67 rfl) (by decide) ?_
    obtain ⟨f13, k⟩ := k
    refine Ev.zast' (am_dt kX10_reads 68 rfl) (am_L.s f4 13 rfl) f13 rfl (fun h14 eh14 => ?_)
    have k := k h14 eh14
    have f4 := am_LsI eh14 f4
    refine Ev.goto (tgt := 172) (am_dt kX10_reads 69 rfl) (by decide) ?_
    refine Ev.aload_n 1 (am_dt kX10_reads 92 rfl) rfl rfl ?_
    refine Ev.callV (ci := 10) (v := mX10_nextToken) (As := []) (st := []) okX10_nextToken wd_623 wd_624 wd_625 (am_dt kX10_reads 93 rfl) (by decide) rfl rfl (Nat.le_of_ble_eq_true rfl) (Nat.le_of_ble_eq_true rfl) f4.1 ?_
    refine EvM.mono k (fun r16 h15 k => ?_)
    obtain ⟨rfl, k⟩ := k
    show Ev w _ _ _ 176 _ [] _ _
    refine Ev.goto (tgt := 11) (am_dt kX10_reads 94 rfl) (by decide) ?_
    exact Ev.sub [1, 0, 2] rfl k
