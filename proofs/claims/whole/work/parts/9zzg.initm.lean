/-! The reference's constructor. -/
def fmL : List (Nat × Nat × Nat) := [(2, 12, 1000), (10, 12, 60), (11, 12, 24), (12, 12, 24), (13, 12, 6000), (14, 13, 16), (15, 12, 96), (16, 12, 96), (17, 12, 96), (18, 12, 96), (19, 12, 96), (20, 12, 180), (23, 12, 7), (24, 14, 7), (25, 12, 7), (26, 12, 7), (27, 12, 7), (28, 12, 7), (29, 12, 7), (30, 12, 7), (31, 12, 7), (32, 12, 7), (33, 12, 7), (34, 12, 20), (37, 12, 360), (38, 12, 360), (39, 12, 360), (40, 12, 360), (41, 12, 360), (42, 12, 360), (43, 12, 360), (45, 12, 360), (46, 12, 360), (47, 12, 360), (51, 12, 256), (52, 12, 2048), (54, 14, 4)]
def fmF (i : Nat) : Nat := (fmL.getD i (0, 0, 0)).1
def fmK (i : Nat) : Nat := (fmL.getD i (0, 0, 0)).2.1
def fmN (i : Nat) : Nat := (fmL.getD i (0, 0, 0)).2.2
theorem fm_lay : ∀ q ∈ am_lay 10, 1 ≤ q.2.1 ∧ q.2.1 - 1 < 37 ∧ q.1 = fmF (q.2.1 - 1) ∧ q.2.2 = fmK (q.2.1 - 1) := by decide
theorem fm_mdN : ∀ q ∈ mdN, 1 ≤ q.1 ∧ q.1 - 1 < 37 ∧ q.2 = fmN (q.1 - 1) := by decide
section INITM
variable {w : am_W} {d : Nat} {h : am_H} {Q : Option Value → am_H → Prop} {m : Nat}
set_option maxHeartbeats 1000000 in
theorem c_starts00 (M : Md m h) (q : ∀ h', FrA (fun a => a = m + 2) h h' → (hI h' (m + 2) 0 = 40 ∧ hI h' (m + 2) 1 = 10 ∧ hI h' (m + 2) 2 = 1 ∧ hI h' (m + 2) 3 = 1 ∧ hI h' (m + 2) 4 = 2 ∧ hI h' (m + 2) 5 = 50 ∧ hI h' (m + 2) 6 = 0 ∧ hI h' (m + 2) 7 = 0 ∧ hI h' (m + 2) 8 = -1 ∧ hI h' (m + 2) 9 = 0) → Q none h') : EvM w mX10_starts0 d [.ref m, .int 0] h Q := by
  refine bX10_starts0_0 ⟨M.1, M.in 1 rfl (k := 0) (by decide) (by decide) (by decide), fun h1 e1 => ?_⟩
  subst e1
  refine ⟨M.in 1 rfl (k := 1) (by decide) (by decide) (by decide), fun h2 e2 => ?_⟩
  subst e2
  refine ⟨M.in 1 rfl (k := 2) (by decide) (by decide) (by decide), fun h3 e3 => ?_⟩
  subst e3
  refine ⟨M.in 1 rfl (k := 3) (by decide) (by decide) (by decide), fun h4 e4 => ?_⟩
  subst e4
  refine ⟨M.in 1 rfl (k := 4) (by decide) (by decide) (by decide), fun h5 e5 => ?_⟩
  subst e5
  refine ⟨M.in 1 rfl (k := 5) (by decide) (by decide) (by decide), fun h6 e6 => ?_⟩
  subst e6
  refine ⟨M.in 1 rfl (k := 6) (by decide) (by decide) (by decide), fun h7 e7 => ?_⟩
  subst e7
  refine ⟨M.in 1 rfl (k := 7) (by decide) (by decide) (by decide), fun h8 e8 => ?_⟩
  subst e8
  refine ⟨M.in 1 rfl (k := 8) (by decide) (by decide) (by decide), fun h9 e9 => ?_⟩
  subst e9
  refine ⟨M.in 1 rfl (k := 9) (by decide) (by decide) (by decide), fun h10 e10 => ?_⟩
  rw [show Int32.toNatClampNeg ((10 * 0) + 0) = 0 by decide, show Int32.toNatClampNeg ((10 * 0) + 1) = 1 by decide, show Int32.toNatClampNeg ((10 * 0) + 2) = 2 by decide, show Int32.toNatClampNeg ((10 * 0) + 3) = 3 by decide, show Int32.toNatClampNeg ((10 * 0) + 4) = 4 by decide, show Int32.toNatClampNeg ((10 * 0) + 5) = 5 by decide, show Int32.toNatClampNeg ((10 * 0) + 6) = 6 by decide, show Int32.toNatClampNeg ((10 * 0) + 7) = 7 by decide, show Int32.toNatClampNeg ((10 * 0) + 8) = 8 by decide, show Int32.toNatClampNeg ((10 * 0) + 9) = 9 by decide] at e10
  have F : FrA (fun a => a = m + 2) h h10 := by
    rw [e10]
    have z : (fun a => a = m + 2) (m + 2) := rfl
    exact FrA.fld (FrA.fld (FrA.fld (FrA.fld (FrA.fld (FrA.fld (FrA.fld (FrA.fld (FrA.fld (FrA.fld (Z := fun a => a = m + 2) FrA.rf z) z) z) z) z) z) z) z) z) z
  refine q h10 F ?_
  rw [e10]
  refine ⟨?_, ?_, ?_, ?_, ?_, ?_, ?_, ?_, ?_, ?_⟩ <;> (simp only [sI_f]; rfl)
theorem Bq.md {h0 : am_H} (B : Bq h0 h m (m + 1) fmF fmK fmN 37) (hk : hK h0 m = 10) : Md m h := by
  obtain ⟨b1, b2, b3, b4, b5, b6, b7, b8, b9⟩ := B
  refine ⟨⟨b5.trans hk, fun p hp => ?_⟩, fun p hp => ?_⟩
  · obtain ⟨f1, f2, f3, f4⟩ := fm_lay p hp
    obtain ⟨x1, x2, _⟩ := b3 (p.2.1 - 1) f2
    have e : m + 1 + (p.2.1 - 1) = m + p.2.1 := by omega
    rw [e] at x1 x2
    exact ⟨by rw [f3]; exact x1, by rw [f4]; exact x2⟩
  · obtain ⟨f1, f2, f3⟩ := fm_mdN p hp
    obtain ⟨_, _, x3, _⟩ := b3 (p.1 - 1) f2
    have e : m + 1 + (p.1 - 1) = m + p.1 := by omega
    rw [e] at x3
    rw [f3]; exact x3
set_option maxHeartbeats 2000000 in
theorem c_initM1 (hz : hZ h = m + 1) (hk : hK h m = 10) (q : ∀ h', Bq h h' m (m + 1) fmF fmK fmN 37 → EvM w mX10_starts0 d [.ref m, .int 0] h' (fun r h' => r = none ∧ Q none h')) : EvM w mX10_init (d + 1) [.ref m] h Q := by
  have nz : ∀ {h' : am_H} {j : Nat}, Bq h h' m (m + 1) fmF fmK fmN j → hZ h' ≠ 0 := fun B => by have := B.1; omega
  have kk : ∀ {h' : am_H} {j : Nat} (k n : Nat), Bq h h' m (m + 1) fmF fmK fmN j → ∀ h1, h1 = nA h' k n → hK h1 m = 10 := fun k n B h1 e => by
    rw [e, (nA_same _ _ _ (by have := B.1; omega)).1, B.2.2.2.2.1]; exact hk
  have hm : m < m + 1 := Nat.lt_succ_self _
  have B0 : Bq h h m (m + 1) fmF fmK fmN 0 := Bq.o hz
  refine bX10_init_0 ?_
  refine fun a0 e0 => ⟨kk _ _ B0 a0 e0, nz B0, fun c0 f0 => ?_⟩
  have B1 := B0.s hm (by decide) e0 f0
  clear e0 f0 B0
  refine fun a1 e1 => ⟨kk _ _ B1 a1 e1, nz B1, fun c1 f1 => ?_⟩
  have B2 := B1.s hm (by decide) e1 f1
  clear e1 f1 B1
  refine fun a2 e2 => ⟨kk _ _ B2 a2 e2, nz B2, fun c2 f2 => ?_⟩
  have B3 := B2.s hm (by decide) e2 f2
  clear e2 f2 B2
  refine fun a3 e3 => ⟨kk _ _ B3 a3 e3, nz B3, fun c3 f3 => ?_⟩
  have B4 := B3.s hm (by decide) e3 f3
  clear e3 f3 B3
  refine fun a4 e4 => ⟨kk _ _ B4 a4 e4, nz B4, fun c4 f4 => ?_⟩
  have B5 := B4.s hm (by decide) e4 f4
  clear e4 f4 B4
  refine fun a5 e5 => ⟨kk _ _ B5 a5 e5, nz B5, fun c5 f5 => ?_⟩
  have B6 := B5.s hm (by decide) e5 f5
  clear e5 f5 B5
  refine fun a6 e6 => ⟨kk _ _ B6 a6 e6, nz B6, fun c6 f6 => ?_⟩
  have B7 := B6.s hm (by decide) e6 f6
  clear e6 f6 B6
  refine fun a7 e7 => ⟨kk _ _ B7 a7 e7, nz B7, fun c7 f7 => ?_⟩
  have B8 := B7.s hm (by decide) e7 f7
  clear e7 f7 B7
  refine fun a8 e8 => ⟨kk _ _ B8 a8 e8, nz B8, fun c8 f8 => ?_⟩
  have B9 := B8.s hm (by decide) e8 f8
  clear e8 f8 B8
  refine fun a9 e9 => ⟨kk _ _ B9 a9 e9, nz B9, fun c9 f9 => ?_⟩
  have B10 := B9.s hm (by decide) e9 f9
  clear e9 f9 B9
  refine fun a10 e10 => ⟨kk _ _ B10 a10 e10, nz B10, fun c10 f10 => ?_⟩
  have B11 := B10.s hm (by decide) e10 f10
  clear e10 f10 B10
  refine fun a11 e11 => ⟨kk _ _ B11 a11 e11, nz B11, fun c11 f11 => ?_⟩
  have B12 := B11.s hm (by decide) e11 f11
  clear e11 f11 B11
  refine fun a12 e12 => ⟨kk _ _ B12 a12 e12, nz B12, fun c12 f12 => ?_⟩
  have B13 := B12.s hm (by decide) e12 f12
  clear e12 f12 B12
  refine fun a13 e13 => ⟨kk _ _ B13 a13 e13, nz B13, fun c13 f13 => ?_⟩
  have B14 := B13.s hm (by decide) e13 f13
  clear e13 f13 B13
  refine fun a14 e14 => ⟨kk _ _ B14 a14 e14, nz B14, fun c14 f14 => ?_⟩
  have B15 := B14.s hm (by decide) e14 f14
  clear e14 f14 B14
  refine fun a15 e15 => ⟨kk _ _ B15 a15 e15, nz B15, fun c15 f15 => ?_⟩
  have B16 := B15.s hm (by decide) e15 f15
  clear e15 f15 B15
  refine fun a16 e16 => ⟨kk _ _ B16 a16 e16, nz B16, fun c16 f16 => ?_⟩
  have B17 := B16.s hm (by decide) e16 f16
  clear e16 f16 B16
  refine fun a17 e17 => ⟨kk _ _ B17 a17 e17, nz B17, fun c17 f17 => ?_⟩
  have B18 := B17.s hm (by decide) e17 f17
  clear e17 f17 B17
  refine fun a18 e18 => ⟨kk _ _ B18 a18 e18, nz B18, fun c18 f18 => ?_⟩
  have B19 := B18.s hm (by decide) e18 f18
  clear e18 f18 B18
  refine fun a19 e19 => ⟨kk _ _ B19 a19 e19, nz B19, fun c19 f19 => ?_⟩
  have B20 := B19.s hm (by decide) e19 f19
  clear e19 f19 B19
  refine fun a20 e20 => ⟨kk _ _ B20 a20 e20, nz B20, fun c20 f20 => ?_⟩
  have B21 := B20.s hm (by decide) e20 f20
  clear e20 f20 B20
  refine fun a21 e21 => ⟨kk _ _ B21 a21 e21, nz B21, fun c21 f21 => ?_⟩
  have B22 := B21.s hm (by decide) e21 f21
  clear e21 f21 B21
  refine fun a22 e22 => ⟨kk _ _ B22 a22 e22, nz B22, fun c22 f22 => ?_⟩
  have B23 := B22.s hm (by decide) e22 f22
  clear e22 f22 B22
  refine fun a23 e23 => ⟨kk _ _ B23 a23 e23, nz B23, fun c23 f23 => ?_⟩
  have B24 := B23.s hm (by decide) e23 f23
  clear e23 f23 B23
  refine fun a24 e24 => ⟨kk _ _ B24 a24 e24, nz B24, fun c24 f24 => ?_⟩
  have B25 := B24.s hm (by decide) e24 f24
  clear e24 f24 B24
  refine fun a25 e25 => ⟨kk _ _ B25 a25 e25, nz B25, fun c25 f25 => ?_⟩
  have B26 := B25.s hm (by decide) e25 f25
  clear e25 f25 B25
  refine fun a26 e26 => ⟨kk _ _ B26 a26 e26, nz B26, fun c26 f26 => ?_⟩
  have B27 := B26.s hm (by decide) e26 f26
  clear e26 f26 B26
  refine fun a27 e27 => ⟨kk _ _ B27 a27 e27, nz B27, fun c27 f27 => ?_⟩
  have B28 := B27.s hm (by decide) e27 f27
  clear e27 f27 B27
  refine fun a28 e28 => ⟨kk _ _ B28 a28 e28, nz B28, fun c28 f28 => ?_⟩
  have B29 := B28.s hm (by decide) e28 f28
  clear e28 f28 B28
  refine fun a29 e29 => ⟨kk _ _ B29 a29 e29, nz B29, fun c29 f29 => ?_⟩
  have B30 := B29.s hm (by decide) e29 f29
  clear e29 f29 B29
  refine fun a30 e30 => ⟨kk _ _ B30 a30 e30, nz B30, fun c30 f30 => ?_⟩
  have B31 := B30.s hm (by decide) e30 f30
  clear e30 f30 B30
  refine fun a31 e31 => ⟨kk _ _ B31 a31 e31, nz B31, fun c31 f31 => ?_⟩
  have B32 := B31.s hm (by decide) e31 f31
  clear e31 f31 B31
  refine fun a32 e32 => ⟨kk _ _ B32 a32 e32, nz B32, fun c32 f32 => ?_⟩
  have B33 := B32.s hm (by decide) e32 f32
  clear e32 f32 B32
  refine fun a33 e33 => ⟨kk _ _ B33 a33 e33, nz B33, fun c33 f33 => ?_⟩
  have B34 := B33.s hm (by decide) e33 f33
  clear e33 f33 B33
  refine fun a34 e34 => ⟨kk _ _ B34 a34 e34, nz B34, fun c34 f34 => ?_⟩
  have B35 := B34.s hm (by decide) e34 f34
  clear e34 f34 B34
  refine fun a35 e35 => ⟨kk _ _ B35 a35 e35, nz B35, fun c35 f35 => ?_⟩
  have B36 := B35.s hm (by decide) e35 f35
  clear e35 f35 B35
  refine fun a36 e36 => ⟨kk _ _ B36 a36 e36, nz B36, fun c36 f36 => ?_⟩
  have B37 := B36.s hm (by decide) e36 f36
  clear e36 f36 B36
  exact q _ B37
theorem c_initM (hz : hZ h = m + 1) (hk : hK h m = 10) (hI0 : hI h m = (fun _ => 0)) (q : ∀ h', (∀ b, b < m → same h h' b) → hZ h' = m + 38 → hS h' = hS h + 13789 → RepM m h' A0R → Q none h') : EvM w mX10_init (d + 1) [.ref m] h Q := by
  refine c_initM1 hz hk (fun g B => ?_)
  have M := B.md hk
  obtain ⟨b1, b2, b3, b4, b5, b6, b7, b8, b9⟩ := B
  refine c_starts00 M (fun g' F c => ⟨rfl, ?_⟩)
  have M' : Md m g' := ⟨F.L M.1, fun p hp => by rw [F.N]; exact M.2 p hp⟩
  have i37 : hI g (m + 37) = (fun _ => 0) := (b3 36 (by decide)).2.2.2.1
  refine q g' (fun b hb => (b4 b (by omega) (by omega)).tr (F.same (fun z => by omega))) (by rw [F.2.2.2.2.1, b1]) (by rw [F.2.2.2.2.2.1, b2, show smN fmN 37 = 13789 by decide]) ⟨M', ?_, Nat.zero_le _, fun p hp => absurd hp (Nat.not_lt_zero _), fun p hp => absurd hp (Nat.not_lt_zero _), ⟨⟨VT_0, ⟨0, Nat.zero_le _, by show (-1 : Int32) = nI 0 - 1; decide⟩, Nat.zero_le _, fun i hi => absurd hi (Nat.not_lt_zero _)⟩, c, ⟨fun p hp => absurd hp (Nat.not_lt_zero _), fun p hp => absurd hp (Nat.not_lt_zero _), fun p hp => absurd hp (Nat.not_lt_zero _), fun p hp => absurd hp (Nat.not_lt_zero _), fun p hp => absurd hp (Nat.not_lt_zero _)⟩, fun p hp => absurd hp (Nat.not_lt_zero _), fun l hl => absurd hl (Nat.not_lt_zero _)⟩, fun i hi => ⟨?_, fun z => absurd z (by show ¬ (false = true); decide)⟩⟩
  · rw [F.I (fun z => by omega), b7, hI0]; rfl
  · rw [F.I (fun z => by omega), i37]; rfl
end INITM
