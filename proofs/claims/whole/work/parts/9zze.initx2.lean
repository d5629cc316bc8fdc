/-! The class's constructor: a new object holds the start. -/
section INITX2
variable {w : am_W} {d : Nat} {h : am_H} {Q : Option Value → am_H → Prop} {x y : Nat}
theorem RvP.new {ρ : Nat} (R : RvP ρ h t0R (fun _ => 0)) (h5 : hR h ρ 5 = ρ + 11) (k : hK h (ρ + 11) = 12) (n : hN h (ρ + 11) = 0) : RvX ρ h t0R := by
  obtain ⟨a1, a2, a3, a4, a5, a6, a7, a8, a9⟩ := R
  exact ⟨a1, a2, a3, a4, a5, a6, a7, ⟨a8, by rw [h5]; omega, by rw [h5]; exact k, by rw [h5, n]; decide⟩, fun i hi => absurd hi (Nat.not_lt_zero _)⟩
/-- the object behind its marks -/
def I1 (x : Nat) (h hm : am_H) : Prop := (∀ b, b < x → same h hm b) ∧ hZ hm = x + 31 ∧ hS hm = hS h + 4356 ∧ (hK hm x = 9 ∧ hI hm x = (fun _ => 0) ∧ hR hm x 0 = x + 13 ∧ hR hm x 1 = x + 17 ∧ hR hm x 2 = x + 20 ∧ hR hm x 3 = x + 22) ∧ (RvP (x + 1) hm t0R (fun _ => 0) ∧ hR hm (x + 1) 5 = x + 12 ∧ hK hm (x + 12) = 12 ∧ hN hm (x + 12) = 0) ∧ (am_L 8 (x + 13) hm ∧ hN hm (x + 14) = 1000 ∧ hN hm (x + 15) = 1001 ∧ hN hm (x + 16) = 1001 ∧ hI hm (x + 13) 3 = 0) ∧ (am_L 5 (x + 17) hm ∧ hN hm (x + 18) = 16 ∧ hN hm (x + 19) = 1000 ∧ hR hm (x + 17) 0 = x + 13) ∧ MkN x hm (x + 20) ∧ hK hm (x + 22) = 15 ∧ hN hm (x + 22) = 4 ∧ ∀ i, i < 4 → hR hm (x + 22) i = x + 23 + 2 * i ∧ MkN x hm (x + 23 + 2 * i)
set_option maxHeartbeats 2000000 in
theorem c_initX1 (hz : hZ h = x + 1) (hk : hK h x = 9) (hI0 : hI h x = (fun _ => 0)) (hao : ∀ s, w.2.2.2.2 s → va_AO "EvenFerry$State" s) (q : ∀ hm, I1 x h hm → Ev w (am_Z w) mX9_init (d + 3) 61 [(0, .ref x), (1, .ref (x + 1)), (2, .int (nI 4))] [] hm Q) : EvM w mX9_init (d + 3) [.ref x] h Q := by
  refine bX9_init_0 (fun h1 e1 => ?_)
  rw [hz]
  have z1 : hZ h1 = x + 2 := by rw [e1]; show hZ h + 1 = _; omega
  have nw1 := nO_new h 6 15
  rw [← e1, hz] at nw1
  have s1 : ∀ b, b < x + 1 → same h h1 b := fun b hb => by rw [e1]; exact nO_same _ _ _ (by omega)
  have S1 : hS h1 = hS h + 15 := by rw [e1]; rfl
  clear e1
  refine c_riverI (d := d) (ρ := x + 1) z1 nw1.1 nw1.2.1 (fun h2 s2 z2 S2 R2 r14 r5 k12 n12 => ⟨rfl, fun h4 e4 => ?_⟩)
  have z2 : hZ h2 = x + 13 := z2
  rw [z2]
  have u2 : ∀ b, b < x + 1 → same h h2 b := fun b hb => (s1 b hb).tr (s2 b hb)
  have nw4 := nO_new h2 8 5
  rw [← e4, z2] at nw4
  refine c_tapeI (d := d + 1) (by rw [e4]; show hZ h2 + 1 = _; omega) nw4.1 (fun h5 M5 l8 t1 t2 t3 ti => ⟨rfl, ?_⟩)
  have k5 : hK h5 x = 9 := by
    rw [(M5.1 x (by omega)).1, e4, (nO_same h2 8 5 (b := x) (by omega)).1, (u2 x (by omega)).1]; exact hk
  refine ⟨k5, by omega, fun h9 e9 h10 e10 => ?_⟩
  have X9 : Sx h2 h9 x 0 (x + 13) (x + 17) 3007 := Sx.of z2.symm (by omega) e4 M5 e9 rfl
  have T9 : am_L 8 (x + 13) h9 := l8.sm (M := 3) (by decide) (fun b y1 y2 => by rw [e9]; exact sR_same _ _ _ _ (by omega))
  have T9n : hN h9 (x + 14) = 1000 ∧ hN h9 (x + 15) = 1001 ∧ hN h9 (x + 16) = 1001 := by rw [e9]; exact ⟨t1, t2, t3⟩
  have T9i : hI h9 (x + 13) 3 = 0 := by rw [e9]; show hI h5 (x + 13) 3 = 0; rw [ti, nw4.2.1]
  clear e4 e9 M5
  have z9 : hZ h9 = x + 17 := X9.2.2.2.2.1
  rw [z9]
  have k9 : hK h9 x = 9 := by rw [X9.2.1, (u2 x (by omega)).1]; exact hk
  have r10 : hR h10 x 0 = x + 13 := by rw [e10, (nO_same h9 5 8 (b := x) (by omega)).2.2.2.2, X9.2.2.2.1]; rfl
  refine ⟨by rw [e10, (nO_same h9 5 8 (b := x) (by omega)).1]; exact k9, by rw [r10]; omega, ?_⟩
  rw [r10]
  have nw10 := nO_new h9 5 8
  rw [← e10, z9] at nw10
  refine c_parserI (d := d + 1) (by rw [e10]; show hZ h9 + 1 = _; omega) nw10.1 (by omega) (by omega) (fun h13 M13 l5 p1 p2 pr => ⟨rfl, ?_, by omega, fun h17 e17 h18 e18 => ?_⟩)
  · rw [(M13.1 x (by omega)).1, e10, (nO_same h9 5 8 (b := x) (by omega)).1]; exact k9
  have X17 : Sx h9 h17 x 1 (x + 17) (x + 20) 1024 := Sx.of z9.symm (by omega) e10 M13 e17 rfl
  have P17 : am_L 5 (x + 17) h17 := l5.sm (M := 2) (by decide) (fun b y1 y2 => by rw [e17]; exact sR_same _ _ _ _ (by omega))
  have P17n : hN h17 (x + 18) = 16 ∧ hN h17 (x + 19) = 1000 ∧ hR h17 (x + 17) 0 = x + 13 := by
    refine ⟨by rw [e17]; exact p1, by rw [e17]; exact p2, ?_⟩
    rw [e17, sR_r, if_neg (by omega)]; exact pr
  clear e10 e17 M13
  have z17 : hZ h17 = x + 20 := X17.2.2.2.2.1
  have k17 : hK h17 x = 9 := by rw [X17.2.1]; exact k9
  rw [z17]
  have nw18 := nO_new h17 7 5
  rw [← e18, z17] at nw18
  refine c_stateI (d := d + 1) (by rw [e18]; show hZ h17 + 1 = _; omega) nw18.1 nw18.2.1 (by omega) (fun h19 M19 l7 n30 sr1 si2 si3 si4 => ⟨rfl, ?_, by omega, fun h23 e23 => ⟨hao, fun h24 e24 => ?_⟩⟩)
  · rw [(M19.1 x (by omega)).1, e18, (nO_same h17 7 5 (b := x) (by omega)).1]; exact k17
  have X23 : Sx h17 h23 x 2 (x + 20) (x + 22) 35 := Sx.of z17.symm (by omega) e18 M19 e23 rfl
  have N23 : MkN x h23 (x + 20) := (show MkN x h19 (x + 20) from ⟨l7, n30, sr1, si2, si3, si4⟩).sm (fun b y1 y2 => by rw [e23]; exact sR_same _ _ _ _ (by omega))
  clear e18 e23 M19
  have z23 : hZ h23 = x + 22 := X23.2.2.2.2.1
  have k23 : hK h23 x = 9 := by rw [X23.2.1]; exact k17
  have s24 : ∀ b, b < x + 22 → same h23 h24 b := fun b hb => by rw [e24]; exact nA_same _ _ _ (by omega)
  have nw24 := nA_new h23 15 4
  rw [← e24, z23] at nw24
  rw [z23]
  refine ⟨(s24 x (by omega)).1.trans k23, by omega, fun h27 e27 => ?_⟩
  have s27 : ∀ b, b ≠ x → same h24 h27 b := fun b hb => by rw [e27]; exact sR_same _ _ _ _ hb
  have u27 : ∀ b, b < x + 22 → b ≠ x → same h23 h27 b := fun b hb hn => (s24 b hb).tr (s27 b hn)
  have r27 : ∀ f, hR h27 x f = if f = 3 then x + 22 else hR h23 x f := fun f => by
    rw [e27, sR_r, (s24 x (by omega)).2.2.2.2]
    simp only [true_and]
  have k27 : hK h27 x = 9 := by rw [e27]; exact (s24 x (by omega)).1.trans k23
  have i27 : hI h27 x = hI h23 x := by rw [e27]; exact (s24 x (by omega)).2.2.1
  have MI0 : MI x h27 h27 0 := by
    refine ⟨?_, rfl, fun b _ _ => same.rf, (s27 (x + 22) (by omega)).1.trans nw24.1, (s27 (x + 22) (by omega)).2.1.trans nw24.2.1, fun k hk => absurd hk (Nat.not_lt_zero _)⟩
    rw [e27, e24]; show hZ h23 + 1 = _; omega
  have S27 : hS h27 = hS h23 + 4 := by rw [e27, e24]; rfl
  clear e24 e27
  refine c_marks (d := d) k27 (by rw [r27]; rfl) (fun hm MM _ => ?_) 4 0 h27 rfl MI0
  obtain ⟨m1, m2, m3, m4, m5, m6⟩ := MM
  have m1 : hZ hm = x + 31 := m1
  have xm := m3 x (by omega) (by omega)
  have rm : ∀ f, hR hm x f = if f = 3 then x + 22 else if f = 2 then x + 20 else if f = 1 then x + 17 else if f = 0 then x + 13 else hR h2 x f := fun f => by
    rw [xm.2.2.2.2, r27, X23.2.2.2.1, X17.2.2.2.1, X9.2.2.2.1]
  have v27 : ∀ b, b < x + 22 → b ≠ x → same h27 hm b := fun b hb _ => m3 b (by omega) (by omega)
  have v23 : ∀ b, b < x + 22 → b ≠ x → same h23 hm b := fun b hb hn => (u27 b hb hn).tr (v27 b hb hn)
  have v17 : ∀ b, b < x + 20 → b ≠ x → same h17 hm b := fun b hb hn => (X23.1 b (by omega) hn).tr (v23 b (by omega) hn)
  have v9 : ∀ b, b < x + 17 → b ≠ x → same h9 hm b := fun b hb hn => (X17.1 b (by omega) hn).tr (v17 b (by omega) hn)
  have v2 : ∀ b, b < x + 13 → b ≠ x → same h2 hm b := fun b hb hn => (X9.1 b (by omega) hn).tr (v9 b (by omega) hn)
  have SS : hS hm = hS h + 4356 := by
    have a5 := X23.2.2.2.2.2
    have a6 := X17.2.2.2.2.2
    have a7 := X9.2.2.2.2.2
    omega
  refine q hm ⟨fun b hb => (u2 b (by omega)).tr (v2 b (by omega) (by omega)), m1, SS, ⟨xm.1.trans k27, ?_, by rw [rm]; rfl, by rw [rm]; rfl, by rw [rm]; rfl, by rw [rm]; rfl⟩, ⟨R2.sm (fun b y1 y2 => v2 b (by omega) (by omega)), ?_, ?_, ?_⟩, ⟨T9.sm (M := 3) (by decide) (fun b y1 y2 => v9 b (by omega) (by omega)), ?_, ?_, ?_, ?_⟩, ⟨P17.sm (M := 2) (by decide) (fun b y1 y2 => v17 b (by omega) (by omega)), ?_, ?_, ?_⟩, N23.sm (fun b y1 y2 => v23 b (by omega) (by omega)), m4, m5, m6⟩
  · rw [xm.2.2.1, i27, X23.2.2.1, X17.2.2.1, X9.2.2.1, (u2 x (by omega)).2.2.1, hI0]
  · rw [(v2 (x + 1) (by omega) (by omega)).2.2.2.2]; exact r5
  · rw [(v2 (x + 12) (by omega) (by omega)).1]; exact k12
  · rw [(v2 (x + 12) (by omega) (by omega)).2.1]; exact n12
  · rw [(v9 (x + 14) (by omega) (by omega)).2.1]; exact T9n.1
  · rw [(v9 (x + 15) (by omega) (by omega)).2.1]; exact T9n.2.1
  · rw [(v9 (x + 16) (by omega) (by omega)).2.1]; exact T9n.2.2
  · rw [(v9 (x + 13) (by omega) (by omega)).2.2.1]; exact T9i
  · rw [(v17 (x + 18) (by omega) (by omega)).2.1]; exact P17n.1
  · rw [(v17 (x + 19) (by omega) (by omega)).2.1]; exact P17n.2.1
  · rw [(v17 (x + 17) (by omega) (by omega)).2.2.2.2]; exact P17n.2.2
end INITX2
