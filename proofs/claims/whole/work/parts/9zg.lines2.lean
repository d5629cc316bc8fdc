/-! A line keeps the bounds. -/
/-- a line that ends well: its last token is the sign of end -/
def OKL (kd : Nat → Int32) (i : Nat) (X : P2) (D' : LD) : Prop := X.1 = 0 → ∃ e, X = (0, e + 1) ∧ kd e = 59 ∧ i < e ∧ VD kd D' (e + 1)
section LINES2
variable {kd pc nv : Nat → Int32} {ky : Nat → Int64} {K N i : Nat} {bg : Nat → Nat} {S : P2} {D : LD}
theorem leR_s {n b : Nat} {f : Nat → Int32} {v : Int32} (h : leR n b f) (hv : ∃ k, k ≤ b ∧ v = nI k) : leR (n + 1) b (va_up f n v) := fun p hp => by
  by_cases c : p = n
  · rw [c, va_up_self]; exact hv
  · rw [va_up_ne _ _ c]; exact h p (by omega)
theorem tol_ok (hB : ∀ M, BgO M pc bg) {j : Nat} (hj : j < 5) (V : VD kd D i) : OKL kd i (xpt kd pc 59 (tolP kd pc nv j D.1 (0, i))) (tolD nv j i D) := by
  intro z
  have B := hB (i + 20)
  obtain ⟨V1, ⟨a1, a2, a3, a4, a5, a6, a7, a8, a9, a10, a11, a12, a13, a14⟩, V3, V4, V5⟩ := V
  have tb : D.1 ||| 2 ^ j < 32 := (tb_bit V1 hj).2.2
  by_cases c : D.1.testBit j = true
  · rw [tolP, if_pos c] at z
    obtain ⟨x1, _⟩ := xpt_al B (fun _ => by have := wrg_le (pc := pc) (k := 3) (S := (0, i)); show _ ≤ i + 20; omega) z
    exact absurd x1 (by rw [wrg, if_pos rfl]; exact flt_no B 3 (by decide) (by decide) (by show i ≤ i + 20; omega))
  · have es : stp ((0, i) : P2) = (0, i + 1) := rfl
    by_cases c3 : j = 3
    · subst c3
      have hP : tolP kd pc nv 3 D.1 (0, i) = num kd pc nv (nv (i + 1) + 1) 9 (xpt kd pc 71 (num kd pc nv 1 8 (0, i + 1))) := by rw [tolP, if_neg c, if_pos rfl]; rfl
      rw [hP] at z ⊢
      have l1 := num_le (kd := kd) (pc := pc) (nv := nv) (lo := 1) (hi := 8) (S := (0, i + 1))
      have l2 := xpt_le (kd := kd) (pc := pc) (k := 71) (S := num kd pc nv 1 8 (0, i + 1))
      have l3 := num_le (kd := kd) (pc := pc) (nv := nv) (lo := nv (i + 1) + 1) (hi := 9) (S := xpt kd pc 71 (num kd pc nv 1 8 (0, i + 1)))
      have l1 : (num kd pc nv 1 8 (0, i + 1)).2 ≤ i + 2 := l1
      obtain ⟨x1, x2, x3⟩ := xpt_al B (fun _ => by omega) z
      obtain ⟨y1, y2, y3, y4, y5⟩ := num_al B (fun _ => by omega) x1
      obtain ⟨u1, u2, u3⟩ := xpt_al B (fun _ => by omega) y1
      obtain ⟨w1, w2, w3, w4, w5⟩ := num_al B (fun _ => by show i + 1 ≤ i + 20; omega) u1
      have w5 : num kd pc nv 1 8 (0, i + 1) = (0, i + 2) := w5
      rw [w5] at u3
      have u3 : xpt kd pc 71 (0, i + 2) = (0, i + 3) := u3
      rw [w5, u3] at y3 y4 y5 x2 x3 ⊢
      have y5 : num kd pc nv (nv (i + 1) + 1) 9 (0, i + 3) = (0, i + 4) := y5
      rw [y5] at x2 x3 ⊢
      have w3 : ¬ nv (i + 1) < nI 1 := w3
      have w4 : nv (i + 1) ≤ nI 8 := w4
      obtain ⟨k1, p1, p2, p3, p4⟩ := range_nI (by decide) (by decide) w3 w4
      have y3 : ¬ nv (i + 3) < nv (i + 1) + 1 := y3
      have y4 : nv (i + 3) ≤ nI 9 := y4
      rw [p3, nI_1] at y3
      obtain ⟨k2, p5, p6, p7, p8⟩ := range_nI (by omega) (by decide) y3 y4
      refine ⟨i + 4, x3, x2, by omega, tb, ⟨a1, a2, a3, a4, ⟨?_, ?_, ?_⟩, a6, a7, a8, a9, a10, a11, a12, a13, a14⟩, V3, V4, by show D.2.2.2.2.1 ≤ i + 4 + 1; omega⟩
      · show 1 ≤ (nv (i + 1)).toNatClampNeg; omega
      · show (nv (i + 1)).toNatClampNeg < (nv (i + 3)).toNatClampNeg; omega
      · show (nv (i + 3)).toNatClampNeg ≤ 9; omega
    · have hP : tolP kd pc nv j D.1 (0, i) = num kd pc nv (loJ j) (hiJ j) (0, i + 1) := by rw [tolP, if_neg c, if_neg c3]; rfl
      rw [hP] at z ⊢
      have l1 := num_le (kd := kd) (pc := pc) (nv := nv) (lo := loJ j) (hi := hiJ j) (S := (0, i + 1))
      have l1 : (num kd pc nv (loJ j) (hiJ j) (0, i + 1)).2 ≤ i + 2 := l1
      obtain ⟨x1, x2, x3⟩ := xpt_al B (fun _ => by omega) z
      obtain ⟨w1, w2, w3, w4, w5⟩ := num_al B (fun _ => by show i + 1 ≤ i + 20; omega) x1
      have w3 : ¬ nv (i + 1) < loJ j := w3
      have w4 : nv (i + 1) ≤ hiJ j := w4
      have w5 : num kd pc nv (loJ j) (hiJ j) (0, i + 1) = (0, i + 2) := w5
      rw [w5] at x2 x3 ⊢
      have hl : D.2.2.2.2.1 ≤ i + 2 + 1 := by omega
      have hh : j = 0 ∨ j = 1 ∨ j = 2 ∨ j = 4 := by omega
      rcases hh with e | e | e | e <;> subst e
      · obtain ⟨k1, p1, p2, p3, p4⟩ := range_nI (lo := 1) (hi := 40) (by decide) (by decide) w3 w4
        refine ⟨i + 2, x3, x2, by omega, tb, ⟨a1, ⟨?_, ?_⟩, a3, a4, a5, a6, a7, a8, a9, a10, a11, a12, a13, a14⟩, V3, V4, hl⟩
        · show 1 ≤ (nv (i + 1)).toNatClampNeg; omega
        · show (nv (i + 1)).toNatClampNeg ≤ 40; omega
      · obtain ⟨k1, p1, p2, p3, p4⟩ := range_nI (lo := 0) (hi := 99) (by decide) (by decide) w3 w4
        refine ⟨i + 2, x3, x2, by omega, tb, ⟨a1, a2, ?_, a4, a5, a6, a7, a8, a9, a10, a11, a12, a13, a14⟩, V3, V4, hl⟩
        show (nv (i + 1)).toNatClampNeg ≤ 99; omega
      · obtain ⟨k1, p1, p2, p3, p4⟩ := range_nI (lo := 1) (hi := 2) (by decide) (by decide) w3 w4
        refine ⟨i + 2, x3, x2, by omega, tb, ⟨a1, a2, a3, ?_, a5, a6, a7, a8, a9, a10, a11, a12, a13, a14⟩, V3, V4, hl⟩
        show (nv (i + 1)).toNatClampNeg = 1 ∨ (nv (i + 1)).toNatClampNeg = 2; omega
      · obtain ⟨k1, p1, p2, p3, p4⟩ := range_nI (lo := 0) (hi := 1000) (by decide) (by decide) w3 w4
        refine ⟨i + 2, x3, x2, by omega, tb, ⟨a1, a2, a3, a4, a5, ?_, a7, a8, a9, a10, a11, a12, a13, a14⟩, V3, V4, hl⟩
        show (nv (i + 1)).toNatClampNeg ≤ 1000; omega
set_option maxHeartbeats 1000000 in
theorem per_ok (hB : ∀ M, BgO M pc bg) (V : VD kd D i) (hn : tN D.2.2.1 < 16) : OKL kd i (xpt kd pc 59 (perP kd pc nv ky D.2.1 (tN D.2.2.1) (chs (tKd D.2.2.1) (tN D.2.2.1)) (0, i))) (perD kd nv i D) := by
  intro z
  have B := hB (i + 20)
  obtain ⟨V1, ⟨a1, a2, a3, a4, a5, a6, a7, a8, a9, a10, a11, a12, a13, a14⟩, V3, V4, V5⟩ := V
  rw [perP, show stp ((0, i) : P2) = (0, i + 1) from rfl] at z ⊢
  have l1 : (nme kd pc ky D.2.1 (tN D.2.2.1) (0, i + 1)).2 ≤ i + 2 := nme_le
  generalize e1 : nme kd pc ky D.2.1 (tN D.2.2.1) (0, i + 1) = S1 at z l1 ⊢
  have l2 := sdw_le (kd := kd) (pc := pc) (S := S1)
  generalize e2 : sdw kd pc S1 = S2 at z l2 ⊢
  have l3 := xpt_le (kd := kd) (pc := pc) (k := 72) (S := S2)
  generalize e3 : xpt kd pc 72 S2 = S3 at z l3 ⊢
  have l4 := num_le (kd := kd) (pc := pc) (nv := nv) (lo := 0) (hi := 1439) (S := S3)
  generalize e4 : num kd pc nv 0 1439 S3 = S4 at z l4 ⊢
  have l5 := xpt_le (kd := kd) (pc := pc) (k := 73) (S := S4)
  generalize e5 : xpt kd pc 73 S4 = S5 at z l5 ⊢
  have l6 := num_le (kd := kd) (pc := pc) (nv := nv) (lo := 0) (hi := 999) (S := S5)
  generalize e6 : num kd pc nv 0 999 S5 = S6 at z l6 ⊢
  have l7 := xpt_le (kd := kd) (pc := pc) (k := 74) (S := S6)
  generalize e7 : xpt kd pc 74 S6 = S7 at z l7 ⊢
  have l8 := num_le (kd := kd) (pc := pc) (nv := nv) (lo := 0) (hi := 99) (S := S7)
  generalize e8 : num kd pc nv 0 99 S7 = S8 at z l8 ⊢
  have l9 := kwd_le (kd := kd) (pc := pc) (ch := chs (tKd D.2.2.1) (tN D.2.2.1)) (S := S8)
  obtain ⟨x1, x2, x3⟩ := xpt_al B (fun _ => by omega) z
  obtain ⟨y1, y2, y3⟩ := kwd_al B (fun _ => by omega) x1
  rw [← e8] at y1
  obtain ⟨b1, b2, b3, b4, b5⟩ := num_al B (fun _ => by omega) y1
  rw [← e7] at b1
  obtain ⟨c1, c2, c3⟩ := xpt_al B (fun _ => by omega) b1
  rw [← e6] at c1
  obtain ⟨d1, d2, d3, d4, d5⟩ := num_al B (fun _ => by omega) c1
  rw [← e5] at d1
  obtain ⟨f1, f2, f3⟩ := xpt_al B (fun _ => by omega) d1
  rw [← e4] at f1
  obtain ⟨g1, g2, g3, g4, g5⟩ := num_al B (fun _ => by omega) f1
  rw [← e3] at g1
  obtain ⟨h1, h2, h3⟩ := xpt_al B (fun _ => by omega) g1
  rw [← e2] at h1
  obtain ⟨j1, j2, j3⟩ := sdw_al B (fun _ => by omega) h1
  rw [← e1] at j1
  obtain ⟨k1, ⟨k2, _⟩, k3⟩ := nme_al B (fun _ => by show i + 1 ≤ i + 20; omega) j1
  have E1 : S1 = (0, i + 2) := e1.symm.trans k3
  rw [E1] at j2 j3 e2
  have E2 : S2 = (0, i + 3) := e2.symm.trans j3
  rw [E2] at h3 e3
  have E3 : S3 = (0, i + 4) := e3.symm.trans h3
  rw [E3] at g3 g4 g5 e4
  have E4 : S4 = (0, i + 5) := e4.symm.trans g5
  rw [E4] at f3 e5
  have E5 : S5 = (0, i + 6) := e5.symm.trans f3
  rw [E5] at d3 d4 d5 e6
  have E6 : S6 = (0, i + 7) := e6.symm.trans d5
  rw [E6] at c3 e7
  have E7 : S7 = (0, i + 8) := e7.symm.trans c3
  rw [E7] at b3 b4 b5 e8
  have E8 : S8 = (0, i + 9) := e8.symm.trans b5
  rw [E8] at y2 y3 x2 x3 ⊢
  have y3 : kwd kd pc (chs (tKd D.2.2.1) (tN D.2.2.1)) (0, i + 9) = (0, i + 10) := y3
  rw [y3] at x2 x3 ⊢
  have j2 : kd (i + 2) = 75 ∨ kd (i + 2) = 76 := j2
  obtain ⟨y4, y5, y6⟩ := y2
  obtain ⟨p, p1, p2, p3, _⟩ := range_nI (v := kd (i + 9)) (lo := 81) (hi := 86) (by decide) (by decide) y4 y5
  obtain ⟨q, _, q2, q3, _⟩ := range_nI (v := nv (i + 4)) (lo := 0) (hi := 1439) (by decide) (by decide) g3 g4
  obtain ⟨r, _, r2, r3, _⟩ := range_nI (v := nv (i + 6)) (lo := 0) (hi := 999) (by decide) (by decide) d3 d4
  obtain ⟨u, _, u2, u3, _⟩ := range_nI (v := nv (i + 8)) (lo := 0) (hi := 99) (by decide) (by decide) b3 b4
  have ek : kd (i + 9) - 81 = nI (p - 81) := by rw [p3, show (81 : Int32) = nI 81 by decide, nI_sub p1]
  refine ⟨i + 10, x3, x2, by omega, V1, ⟨?_, a2, a3, a4, a5, a6, a7, ?_, ?_, ?_, ?_, ?_, ?_, a14⟩, ?_, V4, by show D.2.2.2.2.1 ≤ i + 10 + 1; omega⟩
  · show tN D.2.2.1 + 1 ≤ 16; omega
  · exact leR_s a8 ⟨p - 81, by omega, ek⟩
  · refine leR_s a9 ?_
    rcases j2 with e | e
    · exact ⟨0, by decide, by rw [e]; decide⟩
    · exact ⟨1, by decide, by rw [e]; decide⟩
  · exact leR_s a10 ⟨q, q2, q3⟩
  · exact leR_s a11 ⟨r, r2, r3⟩
  · exact leR_s a12 ⟨u, u2, u3⟩
  · show chs (va_up (tKd D.2.2.1) (tN D.2.2.1) (kd (i + 9) - 81)) (tN D.2.2.1 + 1) ≤ 8
    rw [chs_up, ek]
    by_cases c : nI (p - 81) = 5
    · rw [if_pos c]
      rw [show (5 : Int32) = nI 5 by decide, nI_eq (by omega) (by decide)] at c
      have := y6 (by show kd (i + 9) = 86; rw [p3, show p = 86 by omega]; rfl)
      omega
    · rw [if_neg c]; exact a13
  · intro j hj
    have hj : j < tN D.2.2.1 + 1 := hj
    show kd (if j = tN D.2.2.1 then i + 1 else D.2.1 j) = 3
    by_cases c : j = tN D.2.2.1
    · rw [if_pos c]; exact k2
    · rw [if_neg c]; exact V3 j (by omega)
end LINES2
