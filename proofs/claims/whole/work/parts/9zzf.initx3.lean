/-! The class's constructor: the second half; a new object holds the start. -/
section INITX3
variable {w : am_W} {d : Nat} {h : am_H} {Q : Option Value → am_H → Prop} {x y : Nat}
set_option maxHeartbeats 2000000 in
theorem c_initX2 {hm : am_H} (I : I1 x h hm) (hy : x + 69 ≤ y) (q : ∀ h', (∀ b, b < x → same h h' b) → hZ h' = x + 69 → hS h' = hS h + 10807 → RepX x y h' A0R → Q none h') : Ev w (am_Z w) mX9_init (d + 3) 61 [(0, .ref x), (1, .ref (x + 1)), (2, .int (nI 4))] [] hm Q := by
  obtain ⟨low, m1, SS, ⟨km, im, q0, q1, q2, rm3⟩, ⟨Rm, r5, k12, n12⟩, ⟨Tm, Tn1, Tn2, Tn3, Ti⟩, ⟨Pm, Pn1, Pn2, Pn3⟩, Nm, m4, m5, m6⟩ := I
  have Cm : am_L 2 (x + 1 + 1) hm := by obtain ⟨_, ⟨l, c⟩, _⟩ := Rm; exact c.1
  refine bX9_init_61b ⟨km, by rw [rm3]; omega, by rw [rm3]; exact m4, fun _ => ?_, fun c => absurd (by rw [rm3, m5]; exact Int32.le_refl _) c⟩
  intro g1 e1
  rw [m1]
  have nwg1 := nO_new hm 3 18
  rw [← e1, m1] at nwg1
  have sg1 : ∀ b, b < x + 31 → same hm g1 b := fun b hb => by rw [e1]; exact nO_same _ _ _ (by omega)
  refine c_dayI (d := d) (n := 16) (ρ := x + 1) (by rw [e1]; show hZ hm + 1 = _; omega) nwg1.1 (by decide) (by decide) (by omega) (by omega) ⟨Rm.1.sm (M := 10) (by decide) (fun b y1 y2 => sg1 b (by omega)), Cm.sm (M := 5) (by decide) (fun b y1 y2 => sg1 b (by omega))⟩ (fun g2 M2 D2 => ⟨rfl, ?_, by omega, fun g3 e3 g4 e4 => ?_⟩)
  · rw [(M2.1 x (by omega)).1, (sg1 x (by omega)).1]; exact km
  have Y3 : Sx hm g3 x 4 (x + 31) (x + 44) 182 := Sx.of m1.symm (by omega) e1 M2 e3 rfl
  have smD : ∀ {D L : Nat} {p p' : am_H}, DLy D L p → (∀ b, D ≤ b → b ≤ D + 12 → same p p' b) → DLy D L p' := fun {D L p p'} A e => by
    obtain ⟨a1, ⟨b1, b2, b3⟩, ⟨c1, c2, c3⟩, d1, d2, d3, d4, d5, d6, d7, d8⟩ := A
    have n : ∀ b, D ≤ b → b ≤ D + 12 → hN p' b = hN p b := fun b y1 y2 => (e b y1 y2).2.1
    exact ⟨a1.sm (M := 12) (by decide) e, ⟨b1.sm (M := 1) (by decide) (fun b y1 y2 => e b (by omega) (by omega)), by rw [n _ (by omega) (by omega)]; exact b2, b3⟩, ⟨c1.sm (M := 1) (by decide) (fun b y1 y2 => e b (by omega) (by omega)), by rw [n _ (by omega) (by omega)]; exact c2, c3⟩, by rw [n _ (by omega) (by omega)]; exact d1, by rw [n _ (by omega) (by omega)]; exact d2, by rw [n _ (by omega) (by omega)]; exact d3, by rw [n _ (by omega) (by omega)]; exact d4, by rw [n _ (by omega) (by omega)]; exact d5, by rw [n _ (by omega) (by omega)]; exact d6, by rw [n _ (by omega) (by omega)]; exact d7, by rw [n _ (by omega) (by omega)]; exact d8⟩
  have D3 : DLy (x + 31) 16 g3 := smD D2 (fun b y1 y2 => by rw [e3]; exact sR_same _ _ _ _ (by omega))
  clear e1 e3 M2
  have z3 : hZ g3 = x + 44 := Y3.2.2.2.2.1
  have k3 : hK g3 x = 9 := by rw [Y3.2.1]; exact km
  rw [z3]
  have nwg4 := nO_new g3 3 18
  rw [← e4, z3] at nwg4
  have sg4 : ∀ b, b < x + 44 → same g3 g4 b := fun b hb => by rw [e4]; exact nO_same _ _ _ (by omega)
  refine c_dayI (d := d) (n := 300) (ρ := x + 1) (by rw [e4]; show hZ g3 + 1 = _; omega) nwg4.1 (by decide) (by decide) (by omega) (by omega) ⟨Rm.1.sm (M := 10) (by decide) (fun b y1 y2 => (Y3.1 b (by omega) (by omega)).tr (sg4 b (by omega))), Cm.sm (M := 5) (by decide) (fun b y1 y2 => (Y3.1 b (by omega) (by omega)).tr (sg4 b (by omega)))⟩ (fun g5 M5 D5 => ⟨rfl, ?_, by omega, fun g6 e6 g7 e7 => ?_⟩)
  · rw [(M5.1 x (by omega)).1, (sg4 x (by omega)).1]; exact k3
  have Y6 : Sx g3 g6 x 5 (x + 44) (x + 57) 2170 := Sx.of z3.symm (by omega) e4 M5 e6 rfl
  have D6 : DLy (x + 44) 300 g6 := smD D5 (fun b y1 y2 => by rw [e6]; exact sR_same _ _ _ _ (by omega))
  clear e4 e6 M5
  have z6 : hZ g6 = x + 57 := Y6.2.2.2.2.1
  have k6 : hK g6 x = 9 := by rw [Y6.2.1]; exact k3
  rw [z6]
  have nwg7 := nO_new g6 1 7
  rw [← e7, z6] at nwg7
  refine c_choicesI (d := d + 1) (by rw [e7]; show hZ g6 + 1 = _; omega) nwg7.1 (fun g8 M8 l1 c1 c2 c3 c4 ci => ⟨rfl, ?_, by omega, fun g9 e9 g10 e10 => ?_⟩)
  · rw [(M8.1 x (by omega)).1, e7, (nO_same g6 1 7 (b := x) (by omega)).1]; exact k6
  have Y9 : Sx g6 g9 x 6 (x + 57) (x + 62) 2583 := Sx.of z6.symm (by omega) e7 M8 e9 rfl
  have C9 : am_L 1 (x + 57) g9 := l1.sm (M := 4) (by decide) (fun b y1 y2 => by rw [e9]; exact sR_same _ _ _ _ (by omega))
  have C9n : hN g9 (x + 58) = 256 ∧ hN g9 (x + 59) = 2048 ∧ hN g9 (x + 60) = 256 ∧ hN g9 (x + 61) = 16 := by rw [e9]; exact ⟨c1, c2, c3, c4⟩
  have C9i : hI g9 (x + 57) 6 = 0 := by rw [e9]; show hI g8 (x + 57) 6 = 0; rw [ci, nwg7.2.1]
  clear e7 e9 M8
  have z9' : hZ g9 = x + 62 := Y9.2.2.2.2.1
  have k9' : hK g9 x = 9 := by rw [Y9.2.1]; exact k6
  rw [z9']
  have nwg10 := nO_new g9 4 10
  rw [← e10, z9'] at nwg10
  refine c_lotsI (d := d) (by rw [e10]; show hZ g9 + 1 = _; omega) nwg10.1 (fun g11 M11 l4 l2 ln li => ⟨rfl, ?_, by omega, fun G eG => ?_⟩)
  · rw [(M11.1 x (by omega)).1, e10, (nO_same g9 4 10 (b := x) (by omega)).1]; exact k9'
  have YG : Sx g9 G x 7 (x + 62) (x + 69) 1516 := Sx.of z9'.symm (by omega) e10 M11 eG rfl
  have sG : ∀ b, b ≠ x → same g11 G b := fun b hb => by rw [eG]; exact sR_same _ _ _ _ hb
  have LG4 : am_L 4 (x + 62) G := l4.sm (M := 1) (by decide) (fun b y1 y2 => sG b (by omega))
  have LG2 : am_L 2 (x + 63) G := l2.sm (M := 5) (by decide) (fun b y1 y2 => sG b (by omega))
  have LGn : hN G (x + 64) = 300 ∧ hN G (x + 65) = 300 ∧ hN G (x + 66) = 300 ∧ hN G (x + 67) = 300 ∧ hN G (x + 68) = 300 := by rw [eG]; exact ln
  have LGi : hI G (x + 62) 1 = 0 := by rw [eG]; show hI g11 (x + 62) 1 = 0; rw [li, nwg10.2.1]
  clear e10 eG M11 sG
  -- what stays to the end
  have v6 : ∀ b, b < x + 57 → b ≠ x → same g6 G b := fun b hb hn => (Y9.1 b (by omega) hn).tr (YG.1 b (by omega) hn)
  have v3 : ∀ b, b < x + 44 → b ≠ x → same g3 G b := fun b hb hn => (Y6.1 b (by omega) hn).tr (v6 b (by omega) hn)
  have vm : ∀ b, b < x + 31 → b ≠ x → same hm G b := fun b hb hn => (Y3.1 b (by omega) hn).tr (v3 b (by omega) hn)
  have kG : hK G x = 9 := by rw [YG.2.1]; exact k9'
  have iG : hI G x = (fun _ => 0) := by
    rw [YG.2.2.1, Y9.2.2.1, Y6.2.2.1, Y3.2.2.1, im]
  have rG : ∀ f, hR G x f = if f = 7 then x + 62 else if f = 6 then x + 57 else if f = 5 then x + 44 else if f = 4 then x + 31 else hR hm x f := fun f => by
    rw [YG.2.2.2.1, Y9.2.2.2.1, Y6.2.2.2.1, Y3.2.2.2.1]
  have RG : RvX (x + 1) G t0R := by
    have R0 := Rm.new r5 k12 n12
    exact R0.sm (fun b y1 y2 => vm b (by omega) (by omega)) (by rw [r5]; exact vm _ (by omega) (by omega))
  have r5G : hR G (x + 1) 5 = x + 12 := by rw [(vm (x + 1) (by omega) (by omega)).2.2.2.2]; exact r5
  have NG : MkN x G (x + 20) := Nm.sm (fun b y1 y2 => vm b (by omega) (by omega))
  have MG : ∀ i, i < 4 → hR G (x + 22) i = x + 23 + 2 * i ∧ MkN x G (x + 23 + 2 * i) := fun i hi => by
    obtain ⟨a1, a2⟩ := m6 i hi
    exact ⟨by rw [(vm (x + 22) (by omega) (by omega)).2.2.2.2]; exact a1, a2.sm (fun b y1 y2 => vm b (by omega) (by omega))⟩
  have TG : am_L 8 (x + 13) G := Tm.sm (M := 3) (by decide) (fun b y1 y2 => vm b (by omega) (by omega))
  have PG : am_L 5 (x + 17) G := Pm.sm (M := 2) (by decide) (fun b y1 y2 => vm b (by omega) (by omega))
  have DG : DLy (x + 31) 16 G := smD D3 (fun b y1 y2 => v3 b (by omega) (by omega))
  have EG : DLy (x + 44) 300 G := smD D6 (fun b y1 y2 => v6 b (by omega) (by omega))
  have CG : am_L 1 (x + 57) G := C9.sm (M := 4) (by decide) (fun b y1 y2 => YG.1 b (by omega) (by omega))
  have nG : ∀ b, b < x + 62 → b ≠ x → hN G b = hN g9 b := fun b hb hn => (YG.1 b (by omega) hn).2.1
  have kk : ∀ q ∈ am_lay 9, hR G x q.1 = x + q.2.1 ∧ hK G (x + q.2.1) = q.2.2 := fun p hp => by
    have hp : p ∈ [(0, 13, 8), (1, 17, 5), (2, 20, 7), (3, 22, 15), (4, 31, 3), (5, 44, 3), (6, 57, 1), (7, 62, 4)] := hp
    simp only [List.mem_cons, List.not_mem_nil, or_false] at hp
    rcases hp with e | e | e | e | e | e | e | e <;> subst e
    · exact ⟨by rw [rG]; exact q0, TG.1⟩
    · exact ⟨by rw [rG]; exact q1, PG.1⟩
    · exact ⟨by rw [rG]; exact q2, NG.1.1⟩
    · exact ⟨by rw [rG]; exact rm3, (vm (x + 22) (by omega) (by omega)).1.trans m4⟩
    · exact ⟨by rw [rG]; rfl, DG.1.1⟩
    · exact ⟨by rw [rG]; rfl, EG.1.1⟩
    · exact ⟨by rw [rG]; rfl, CG.1⟩
    · exact ⟨by rw [rG]; rfl, LG4.1⟩
  refine q G (fun b hb => (low b hb).tr (vm b (by omega) (by omega))) YG.2.2.2.2.1 ?_ ?_
  · have a1 := YG.2.2.2.2.2
    have a2 := Y9.2.2.2.2.2
    have a3 := Y6.2.2.2.2.2
    have a4 := Y3.2.2.2.2.2
    omega
  · refine ⟨hy, ⟨⟨kG, kk⟩, TG, ?_, PG, ?_, NG.1, NG.2.1, ?_, fun i hi => ⟨(MG i hi).1, (MG i hi).2.1, ?_⟩, DG, EG, CG, ?_, LG4, LG2, LGn⟩, ⟨?_, fun p hp => absurd hp (Nat.not_lt_zero _), Nat.zero_le _, fun p hp => absurd hp (Nat.not_lt_zero _)⟩, ⟨⟨VT_0, ⟨0, Nat.zero_le _, by show (-1 : Int32) = nI 0 - 1; decide⟩, Nat.zero_le _, fun i hi => absurd hi (Nat.not_lt_zero _)⟩, by rw [NG.2.2.1]; omega, by rw [NG.2.2.1]; exact Or.inl ⟨rfl, r5G⟩, by rw [NG.2.2.1]; exact RG, NG.2.2.2.1, NG.2.2.2.2.1, fun p hp => absurd hp (Nat.not_lt_zero _)⟩, fun i hi => ⟨(MG i hi).2.2.2.2.2.2, fun z => absurd z (by show ¬ (false = true); decide)⟩, CaX.none (by rw [iG]) ?_ LGi⟩
    · exact ⟨by rw [(vm (x + 14) (by omega) (by omega)).2.1]; exact Tn1, by rw [(vm (x + 15) (by omega) (by omega)).2.1]; exact Tn2, by rw [(vm (x + 16) (by omega) (by omega)).2.1]; exact Tn3⟩
    · exact ⟨by rw [(vm (x + 18) (by omega) (by omega)).2.1]; exact Pn1, by rw [(vm (x + 19) (by omega) (by omega)).2.1]; exact Pn2, by rw [(vm (x + 17) (by omega) (by omega)).2.2.2.2]; exact Pn3⟩
    · rw [(vm (x + 22) (by omega) (by omega)).2.1]; exact m5
    · have := (MG i hi).2.2.1
      rw [show x + 24 + 2 * i = x + 23 + 2 * i + 1 by omega]
      exact this
    · exact ⟨by rw [nG _ (by omega) (by omega)]; exact C9n.1, by rw [nG _ (by omega) (by omega)]; exact C9n.2.1, by rw [nG _ (by omega) (by omega)]; exact C9n.2.2.1, by rw [nG _ (by omega) (by omega)]; exact C9n.2.2.2⟩
    · rw [(vm (x + 13) (by omega) (by omega)).2.2.1]; exact Ti
    · rw [(YG.1 (x + 57) (by omega) (by omega)).2.2.1]; exact C9i
theorem c_initX (hz : hZ h = x + 1) (hk : hK h x = 9) (hI0 : hI h x = (fun _ => 0)) (hao : ∀ s, w.2.2.2.2 s → va_AO "EvenFerry$State" s) (hy : x + 69 ≤ y) (q : ∀ h', (∀ b, b < x → same h h' b) → hZ h' = x + 69 → hS h' = hS h + 10807 → RepX x y h' A0R → Q none h') : EvM w mX9_init (d + 3) [.ref x] h Q :=
  c_initX1 hz hk hI0 hao (fun hm I => c_initX2 I hy q)
end INITX3
