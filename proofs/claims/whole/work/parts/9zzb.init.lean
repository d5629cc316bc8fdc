/-! The class's other objects, as they are made. -/
def l3 (a b c : Nat) (i : Nat) : Nat := if i = 0 then a else if i = 1 then b else c
def l4 (a b c d : Nat) (i : Nat) : Nat := if i = 0 then a else if i = 1 then b else if i = 2 then c else d
section INIT
variable {w : am_W} {d : Nat} {h : am_H} {Q : Option Value → am_H → Prop} {a : Nat}
/-- an object at a and c - 1 cells behind it have been made, s slots more -/
def Made (h h' : am_H) (a c s : Nat) : Prop := (∀ b, b < a → same h h' b) ∧ hZ h' = a + c ∧ hS h' = hS h + s
theorem Bq.made {h0 : am_H} {F K N : Nat → Nat} {j : Nat} (B : Bq h0 h a (a + 1) F K N j) : Made h0 h a (1 + j) (smN N j) := ⟨fun b hb => B.2.2.2.1 b (by omega) (by omega), by rw [B.1]; omega, B.2.1⟩
theorem c_tapeI (hz : hZ h = a + 1) (hk : hK h a = 8) (q : ∀ h', Made h h' a 4 3002 → am_L 8 a h' → hN h' (a + 1) = 1000 → hN h' (a + 2) = 1001 → hN h' (a + 3) = 1001 → hI h' a = hI h a → Q none h') : EvM w mX8_init (d + 1) [.ref a] h Q := by
  have B0 : Bq h h a (a + 1) (fun i => i) (l3 11 12 12) (l3 1000 1001 1001) 0 := Bq.o hz
  have nz : ∀ {h' : am_H} {j : Nat}, Bq h h' a (a + 1) (fun i => i) (l3 11 12 12) (l3 1000 1001 1001) j → hZ h' ≠ 0 := fun B => by have := B.1; omega
  have kk : ∀ {h' : am_H} {j : Nat} (k n : Nat), Bq h h' a (a + 1) (fun i => i) (l3 11 12 12) (l3 1000 1001 1001) j → ∀ h1, h1 = nA h' k n → hK h1 a = 8 := fun k n B h1 e => by
    rw [e, (nA_same _ _ _ (by have := B.1; omega)).1, B.2.2.2.2.1]; exact hk
  refine bX8_init_0 (fun h1 e1 => ⟨kk _ _ B0 h1 e1, nz B0, fun h2 e2 => ?_⟩)
  have B1 := B0.s (by omega) (fun i hi => by omega) e1 e2
  refine fun h3 e3 => ⟨kk _ _ B1 h3 e3, nz B1, fun h4 e4 => ?_⟩
  have B2 := B1.s (by omega) (fun i hi => by omega) e3 e4
  refine fun h5 e5 => ⟨kk _ _ B2 h5 e5, nz B2, fun h6 e6 => ?_⟩
  have B3 := B2.s (by omega) (fun i hi => by omega) e5 e6
  obtain ⟨b1, b2, b3, b4, b5, b6, b7, b8, b9⟩ := B3
  refine q h6 (Bq.made ⟨b1, b2, b3, b4, b5, b6, b7, b8, b9⟩) ⟨b5.trans hk, fun p hp => ?_⟩ (b3 0 (by decide)).2.2.1 (b3 1 (by decide)).2.2.1 (b3 2 (by decide)).2.2.1 b7
  have hp : p ∈ [(0, 1, 11), (1, 2, 12), (2, 3, 12)] := hp
  simp only [List.mem_cons, List.not_mem_nil, or_false] at hp
  rcases hp with e | e | e <;> subst e
  · exact ⟨(b3 0 (by decide)).1, (b3 0 (by decide)).2.1⟩
  · exact ⟨(b3 1 (by decide)).1, (b3 1 (by decide)).2.1⟩
  · exact ⟨(b3 2 (by decide)).1, (b3 2 (by decide)).2.1⟩
theorem c_parserI {a1 a2 : Nat} (hz : hZ h = a + 1) (hk : hK h a = 5) (h1 : a1 ≠ 0) (h2 : a2 ≠ 0) (q : ∀ h', Made h h' a 3 1016 → am_L 5 a h' → hN h' (a + 1) = 16 → hN h' (a + 2) = 1000 → hR h' a 0 = a1 → Q none h') : EvM w mX5_init (d + 1) [.ref a, .ref a1, .ref a2] h Q := by
  have B0 : Bq h h a (a + 1) (fun i => i + 1) (l3 13 12 0) (l3 16 1000 0) 0 := Bq.o hz
  have nz : ∀ {h' : am_H} {j : Nat}, Bq h h' a (a + 1) (fun i => i + 1) (l3 13 12 0) (l3 16 1000 0) j → hZ h' ≠ 0 := fun B => by have := B.1; omega
  have kk : ∀ {h' : am_H} {j : Nat} (k n : Nat), Bq h h' a (a + 1) (fun i => i + 1) (l3 13 12 0) (l3 16 1000 0) j → ∀ h1, h1 = nA h' k n → hK h1 a = 5 := fun k n B h1 e => by
    rw [e, (nA_same _ _ _ (by have := B.1; omega)).1, B.2.2.2.2.1]; exact hk
  refine bX5_init_0 (fun g1 e1 => ⟨kk _ _ B0 g1 e1, nz B0, fun g2 e2 => ?_⟩)
  have B1 := B0.s (by omega) (fun i hi => by omega) e1 e2
  refine fun g3 e3 => ⟨kk _ _ B1 g3 e3, nz B1, fun g4 e4 => ⟨h1, fun g5 e5 => ⟨h2, fun g6 e6 => ?_⟩⟩⟩
  have B2 := B1.s (by omega) (fun i hi => by omega) e3 e4
  obtain ⟨b1, b2, b3, b4, b5, b6, b7, b8, b9⟩ := B2
  have sm : ∀ b, b ≠ a → same g4 g6 b := fun b hb => by rw [e6, e5]; exact (sR_same _ _ _ _ hb).tr (sR_same _ _ _ _ hb)
  have rr : ∀ f, hR g6 a f = if f = 3 then a2 else if f = 0 then a1 else hR g4 a f := fun f => by
    rw [e6, e5]
    simp only [sR_r, true_and]
  refine q g6 ⟨fun b hb => (b4 b (by omega) (by omega)).tr (sm b (by omega)), ?_, ?_⟩ ⟨?_, fun p hp => ?_⟩ ?_ ?_ ?_
  · rw [e6, e5]; exact b1
  · rw [e6, e5]; exact b2
  · rw [e6, e5]; exact b5.trans hk
  · have hp : p ∈ [(1, 1, 13), (2, 2, 12)] := hp
    simp only [List.mem_cons, List.not_mem_nil, or_false] at hp
    rcases hp with e | e <;> subst e
    · exact ⟨by rw [rr]; exact (b3 0 (by decide)).1, ((sm (a + 1) (by omega)).1).trans (b3 0 (by decide)).2.1⟩
    · exact ⟨by rw [rr]; exact (b3 1 (by decide)).1, ((sm (a + 2) (by omega)).1).trans (b3 1 (by decide)).2.1⟩
  · exact ((sm _ (by omega)).2.1).trans (b3 0 (by decide)).2.2.1
  · exact ((sm _ (by omega)).2.1).trans (b3 1 (by decide)).2.2.1
  · rw [rr]; rfl
theorem c_stateI {a1 : Nat} (hz : hZ h = a + 1) (hk : hK h a = 7) (hI0 : hI h a = (fun _ => 0)) (h1 : a1 ≠ 0) (q : ∀ h', Made h h' a 2 30 → am_L 7 a h' → hN h' (a + 1) = 30 → hR h' a 1 = a1 → hI h' a 2 = -1 → hI h' a 3 = 0 → hI h' a 4 = 0 → Q none h') : EvM w mX7_init (d + 1) [.ref a, .ref a1] h Q := by
  have B0 : Bq h h a (a + 1) (fun i => i) (fun _ => 12) (fun _ => 30) 0 := Bq.o hz
  refine bX7_init_0 (fun g1 e1 => ⟨by rw [e1, (nA_same _ _ _ (by omega)).1]; exact hk, by omega, fun g2 e2 g3 e3 => ⟨h1, fun g4 e4 => ?_⟩⟩)
  have B1 := B0.s (by omega) (fun i hi => by omega) e1 e2
  obtain ⟨b1, b2, b3, b4, b5, b6, b7, b8, b9⟩ := B1
  have sm : ∀ b, b ≠ a → same g2 g4 b := fun b hb => by rw [e4, e3]; exact (sI_same _ _ _ _ hb).tr (sR_same _ _ _ _ hb)
  have ii : ∀ k, hI g4 a k = if k = 2 then -1 else 0 := fun k => by
    rw [e4, e3]
    show hI (sI g2 a 2 (-1)) a k = _
    rw [sI_f, b7, hI0]
  have rr : ∀ f, hR g4 a f = if f = 1 then a1 else hR g2 a f := fun f => by
    rw [e4, e3]
    show hR (sR (sI g2 a 2 (-1)) a 1 a1) a f = _
    simp only [sR_r, true_and]
    rfl
  refine q g4 ⟨fun b hb => (b4 b (by omega) (by omega)).tr (sm b (by omega)), ?_, ?_⟩ ⟨?_, fun p hp => ?_⟩ ?_ ?_ ?_ ?_ ?_
  · rw [e4, e3]; exact b1
  · rw [e4, e3]; exact b2
  · rw [e4, e3]; exact b5.trans hk
  · have hp : p ∈ [(0, 1, 12)] := hp
    simp only [List.mem_cons, List.not_mem_nil, or_false] at hp
    subst hp
    exact ⟨by rw [rr]; exact (b3 0 (by decide)).1, ((sm (a + 1) (by omega)).1).trans (b3 0 (by decide)).2.1⟩
  · exact ((sm _ (by omega)).2.1).trans (b3 0 (by decide)).2.2.1
  · rw [rr]; rfl
  · rw [ii]; rfl
  · rw [ii]; rfl
  · rw [ii]; rfl
theorem c_choicesI (hz : hZ h = a + 1) (hk : hK h a = 1) (q : ∀ h', Made h h' a 5 2576 → am_L 1 a h' → hN h' (a + 1) = 256 → hN h' (a + 2) = 2048 → hN h' (a + 3) = 256 → hN h' (a + 4) = 16 → hI h' a = hI h a → Q none h') : EvM w mX1_init (d + 1) [.ref a] h Q := by
  have B0 : Bq h h a (a + 1) (fun i => i) (fun _ => 12) (l4 256 2048 256 16) 0 := Bq.o hz
  have nz : ∀ {h' : am_H} {j : Nat}, Bq h h' a (a + 1) (fun i => i) (fun _ => 12) (l4 256 2048 256 16) j → hZ h' ≠ 0 := fun B => by have := B.1; omega
  have kk : ∀ {h' : am_H} {j : Nat} (k n : Nat), Bq h h' a (a + 1) (fun i => i) (fun _ => 12) (l4 256 2048 256 16) j → ∀ h1, h1 = nA h' k n → hK h1 a = 1 := fun k n B h1 e => by
    rw [e, (nA_same _ _ _ (by have := B.1; omega)).1, B.2.2.2.2.1]; exact hk
  refine bX1_init_0 (fun h1 e1 => ⟨kk _ _ B0 h1 e1, nz B0, fun h2 e2 => ?_⟩)
  have B1 := B0.s (by omega) (fun i hi => by omega) e1 e2
  refine fun h3 e3 => ⟨kk _ _ B1 h3 e3, nz B1, fun h4 e4 => ?_⟩
  have B2 := B1.s (by omega) (fun i hi => by omega) e3 e4
  refine fun h5 e5 => ⟨kk _ _ B2 h5 e5, nz B2, fun h6 e6 => ?_⟩
  have B3 := B2.s (by omega) (fun i hi => by omega) e5 e6
  refine fun h7 e7 => ⟨kk _ _ B3 h7 e7, nz B3, fun h8 e8 => ?_⟩
  have B4 := B3.s (by omega) (fun i hi => by omega) e7 e8
  obtain ⟨b1, b2, b3, b4, b5, b6, b7, b8, b9⟩ := B4
  refine q h8 (Bq.made ⟨b1, b2, b3, b4, b5, b6, b7, b8, b9⟩) ⟨b5.trans hk, fun p hp => ?_⟩ (b3 0 (by decide)).2.2.1 (b3 1 (by decide)).2.2.1 (b3 2 (by decide)).2.2.1 (b3 3 (by decide)).2.2.1 b7
  have hp : p ∈ [(0, 1, 12), (1, 2, 12), (2, 3, 12), (3, 4, 12)] := hp
  simp only [List.mem_cons, List.not_mem_nil, or_false] at hp
  rcases hp with e | e | e | e <;> subst e
  · exact ⟨(b3 0 (by decide)).1, (b3 0 (by decide)).2.1⟩
  · exact ⟨(b3 1 (by decide)).1, (b3 1 (by decide)).2.1⟩
  · exact ⟨(b3 2 (by decide)).1, (b3 2 (by decide)).2.1⟩
  · exact ⟨(b3 3 (by decide)).1, (b3 3 (by decide)).2.1⟩
theorem c_lotsI (hz : hZ h = a + 1) (hk : hK h a = 4) (q : ∀ h', Made h h' a 7 1506 → am_L 4 a h' → am_L 2 (a + 1) h' → (hN h' (a + 2) = 300 ∧ hN h' (a + 3) = 300 ∧ hN h' (a + 4) = 300 ∧ hN h' (a + 5) = 300 ∧ hN h' (a + 6) = 300) → hI h' a = hI h a → Q none h') : EvM w mX4_init (d + 2) [.ref a] h Q := by
  refine bX4_init_0 (fun h1 e1 => ?_)
  have z1 : hZ h1 = a + 2 := by rw [e1]; show hZ h + 1 = _; omega
  have s1 : ∀ b, b ≠ a + 1 → same h h1 b := fun b hb => by rw [e1]; exact nO_same _ _ _ (by rw [hz]; exact hb)
  have nw := nO_new h 2 6
  rw [← e1, hz] at nw
  rw [hz]
  refine c_crowdI (n := 300) z1 nw.1 (by decide) (by decide) (fun h2 B2 => ⟨rfl, ?_⟩)
  have c2 := B2.crowd (at_ := fun _ => 0) (wt := fun _ => 0) (ct := fun _ => 0) nw.1 nw.2.1 (by decide)
  have s2 : ∀ b, b < a + 1 → same h1 h2 b := fun b hb => B2.2.2.2.1 b (by omega) (by omega)
  have sa := (s1 a (by omega)).tr (s2 a (by omega))
  refine ⟨sa.1.trans hk, by omega, fun h6 e6 => ?_⟩
  have s6 : ∀ b, b ≠ a → same h2 h6 b := fun b hb => by rw [e6]; exact sR_same _ _ _ _ hb
  have c6 := c2.sm (h1 := h6) (fun b y1 y2 => s6 b (by omega))
  refine q h6 ⟨fun b hb => ((s1 b (by omega)).tr (s2 b (by omega))).tr (s6 b (by omega)), ?_, ?_⟩ ⟨?_, fun p hp => ?_⟩ c6.1 c6.2.1 ?_
  · rw [e6]; exact B2.1
  · have a1 : hS h1 = hS h + 6 := by rw [e1]; rfl
    have a2 : hS h2 = hS h1 + smN (fun _ => 300) 5 := B2.2.1
    rw [e6]
    show hS h2 = _
    rw [a2, a1]
    rfl
  · rw [e6]; exact sa.1.trans hk
  · have hp : p ∈ [(0, 1, 2)] := hp
    simp only [List.mem_cons, List.not_mem_nil, or_false] at hp
    subst hp
    exact ⟨by rw [e6, sR_r, if_pos ⟨rfl, rfl⟩], c6.1.1⟩
  · rw [e6]; exact sa.2.2.1
theorem c_bankI {n : Nat} (hz : hZ h = a + 1) (hk : hK h a = 0) (hn0 : 0 < n) (hn : n ≤ 300) (q : ∀ h', Made h h' a 2 n → BkL a n h' → hI h' a = hI h a → Q none h') : EvM w mX0_init (d + 1) [.ref a, .int (nI n)] h Q := by
  have em : (if 0 < nI n then nI n else 0) = nI n := if_pos (by rw [← nI_0, nI_ltI (by decide) (by omega)]; exact hn0)
  have ec : (nI n).toNatClampNeg = n := nI_clamp (by omega)
  have B0 : Bq h h a (a + 1) (fun i => i) (fun _ => 12) (fun _ => n) 0 := Bq.o hz
  refine bX0_init_0 ?_
  rw [em, ec]
  refine ⟨⟨nI_pos (by omega), by omega⟩, fun g1 e1 => ⟨by rw [e1, (nA_same _ _ _ (by omega)).1]; exact hk, by omega, fun g2 e2 => ?_⟩⟩
  have B1 := B0.s (by omega) (fun i hi => by omega) e1 e2
  obtain ⟨b1, b2, b3, b4, b5, b6, b7, b8, b9⟩ := B1
  refine q g2 ⟨fun b hb => b4 b (by omega) (by omega), by rw [b1], by rw [b2]; show hS h + (0 + n) = _; omega⟩ ⟨⟨b5.trans hk, fun p hp => ?_⟩, (b3 0 (by decide)).2.2.1, hn⟩ b7
  have hp : p ∈ [(0, 1, 12)] := hp
  simp only [List.mem_cons, List.not_mem_nil, or_false] at hp
  subst hp
  exact ⟨(b3 0 (by decide)).1, (b3 0 (by decide)).2.1⟩
set_option maxHeartbeats 1000000 in
theorem c_dayI {n ρ : Nat} (hz : hZ h = a + 1) (hk : hK h a = 3) (hn0 : 0 < n) (hn : n ≤ 300) (hρ : ρ ≠ 0) (hρa : ρ + 11 < a) (R : am_L 6 ρ h ∧ am_L 2 (ρ + 1) h) (q : ∀ h', Made h h' a 13 (52 + 7 * n) → DLy a n h' → Q none h') : EvM w mX3_init (d + 2) [.ref a, .ref ρ, .int (nI n)] h Q := by
  have em : (if 0 < nI n then nI n else 0) = nI n := if_pos (by rw [← nI_0, nI_ltI (by decide) (by omega)]; exact hn0)
  have ec : (nI n).toNatClampNeg = n := nI_clamp (by omega)
  have B0 : Bq h h a (a + 1) (fun i => i + 7) (fun _ => 12) (l3 2 6 32) 0 := Bq.o hz
  have nz : ∀ {h' : am_H} {j : Nat}, Bq h h' a (a + 1) (fun i => i + 7) (fun _ => 12) (l3 2 6 32) j → hZ h' ≠ 0 := fun B => by have := B.1; omega
  have kk : ∀ {h' : am_H} {j : Nat} (k m : Nat), Bq h h' a (a + 1) (fun i => i + 7) (fun _ => 12) (l3 2 6 32) j → ∀ h1, h1 = nA h' k m → hK h1 a = 3 := fun k m B h1 e => by
    rw [e, (nA_same _ _ _ (by have := B.1; omega)).1, B.2.2.2.2.1]; exact hk
  refine bX3_init_0 ?_
  rw [em, ec]
  refine fun h1 e1 => ⟨kk _ _ B0 h1 e1, nz B0, fun h2 e2 => ?_⟩
  have B1 := B0.s (by omega) (fun i hi => by omega) e1 e2
  refine fun h3 e3 => ⟨kk _ _ B1 h3 e3, nz B1, fun h4 e4 => ?_⟩
  have B2 := B1.s (by omega) (fun i hi => by omega) e3 e4
  refine fun h5 e5 => ⟨kk _ _ B2 h5 e5, nz B2, fun h6 e6 => ?_⟩
  have B3 := B2.s (by omega) (fun i hi => by omega) e5 e6
  clear e1 e2 e3 e4 e5 e6 B1 B2
  obtain ⟨b1, b2, b3, b4, b5, b6, b7, b8, b9⟩ := B3
  have b1 : hZ h6 = a + 4 := b1
  -- two banks
  refine fun g1 f1 => ?_
  have z1 : hZ g1 = a + 4 + 1 := by rw [f1]; show hZ h6 + 1 = _; omega
  have s1 : ∀ b, b ≠ a + 4 → same h6 g1 b := fun b hb => by rw [f1]; exact nO_same _ _ _ (by rw [b1]; exact hb)
  have n1 := nO_new h6 0 6
  rw [← f1, b1] at n1
  rw [b1]
  refine c_bankI z1 n1.1 hn0 hn (fun g2 M2 K2 _ => ⟨rfl, ?_⟩)
  have t2 : ∀ b, b < a + 4 → same h6 g2 b := fun b hb => (s1 b (by omega)).tr (M2.1 b hb)
  refine ⟨(t2 a (by omega)).1.trans (b5.trans hk), by omega, fun g3 f3 => ?_⟩
  have s3 : ∀ b, b ≠ a → same g2 g3 b := fun b hb => by rw [f3]; exact sR_same _ _ _ _ hb
  have z3 : hZ g3 = a + 6 := by rw [f3]; exact M2.2.1
  have S3 : hS g3 = hS h6 + 6 + n := by rw [f3]; show hS g2 = _; rw [M2.2.2, f1]; rfl
  have k3 : hK g3 a = 3 := by rw [f3]; exact (t2 a (by omega)).1.trans (b5.trans hk)
  have r3 : ∀ f, hR g3 a f = if f = 0 then a + 4 else hR h6 a f := fun f => by
    rw [f3, sR_r, (t2 a (by omega)).2.2.2.2]
    simp only [true_and]
  have K3 : BkL (a + 4) n g3 := ⟨K2.1.sm (M := 1) (by decide) (fun b y1 y2 => s3 b (by omega)), by rw [(s3 (a + 4 + 1) (by omega)).2.1]; exact K2.2.1, hn⟩
  refine fun g4 f4 => ?_
  have z4 : hZ g4 = a + 6 + 1 := by rw [f4]; show hZ g3 + 1 = _; omega
  have s4 : ∀ b, b ≠ a + 6 → same g3 g4 b := fun b hb => by rw [f4]; exact nO_same _ _ _ (by rw [z3]; exact hb)
  have n4 := nO_new g3 0 6
  rw [← f4, z3] at n4
  rw [z3]
  refine c_bankI z4 n4.1 hn0 hn (fun g5 M5 K5 _ => ⟨rfl, ?_⟩)
  have t5 : ∀ b, b < a + 6 → same g3 g5 b := fun b hb => (s4 b (by omega)).tr (M5.1 b hb)
  refine ⟨(t5 a (by omega)).1.trans k3, by omega, fun g6 f6 => ?_⟩
  have s6 : ∀ b, b ≠ a → same g5 g6 b := fun b hb => by rw [f6]; exact sR_same _ _ _ _ hb
  have z6 : hZ g6 = a + 8 := by rw [f6]; exact M5.2.1
  have S6 : hS g6 = hS h6 + 12 + 2 * n := by
    have a1 : hS g6 = hS g5 := by rw [f6]; rfl
    have a2 : hS g4 = hS g3 + 6 := by rw [f4]; rfl
    rw [a1, M5.2.2, a2, S3]
    omega
  have k6 : hK g6 a = 3 := by rw [f6]; exact (t5 a (by omega)).1.trans k3
  have r6 : ∀ f, hR g6 a f = if f = 1 then a + 6 else if f = 0 then a + 4 else hR h6 a f := fun f => by
    rw [f6, sR_r, (t5 a (by omega)).2.2.2.2, r3]
    simp only [true_and]
  have K6 : BkL (a + 4) n g6 := ⟨K3.1.sm (M := 1) (by decide) (fun b y1 y2 => (t5 b (by omega)).tr (s6 b (by omega))), by rw [((t5 (a + 4 + 1) (by omega)).tr (s6 (a + 4 + 1) (by omega))).2.1]; exact K3.2.1, hn⟩
  have K6' : BkL (a + 6) n g6 := ⟨K5.1.sm (M := 1) (by decide) (fun b y1 y2 => s6 b (by omega)), by rw [(s6 (a + 6 + 1) (by omega)).2.1]; exact K5.2.1, hn⟩
  have t6 : ∀ b, b < a + 4 → b ≠ a → same h6 g6 b := fun b hb hn => (((t2 b hb).tr (s3 b hn)).tr (t5 b (by omega))).tr (s6 b hn)
  clear f1 f3 f4 f6
  -- five rows
  have C0 : Bq g6 g6 a (a + 8) (fun i => i + 2) (fun _ => 12) (fun _ => n) 0 := Bq.o z6
  have nz' : ∀ {h' : am_H} {j : Nat}, Bq g6 h' a (a + 8) (fun i => i + 2) (fun _ => 12) (fun _ => n) j → hZ h' ≠ 0 := fun B => by have := B.1; omega
  have kk' : ∀ {h' : am_H} {j : Nat}, Bq g6 h' a (a + 8) (fun i => i + 2) (fun _ => 12) (fun _ => n) j → ∀ h1, h1 = nA h' 12 n → hK h1 a = 3 := fun B h1 e => by
    rw [e, (nA_same _ _ _ (by have := B.1; omega)).1, B.2.2.2.2.1]; exact k6
  have ob : ¬ nI n < 0 ∧ n ≤ 50000000 := ⟨nI_pos (by omega), by omega⟩
  refine ⟨ob, fun h1 e1 => ⟨kk' C0 h1 e1, nz' C0, fun h2 e2 => ?_⟩⟩
  have C1 := C0.s (by omega) (fun i hi => by omega) e1 e2
  refine ⟨ob, fun h3 e3 => ⟨kk' C1 h3 e3, nz' C1, fun h4 e4 => ?_⟩⟩
  have C2 := C1.s (by omega) (fun i hi => by omega) e3 e4
  refine ⟨ob, fun h5 e5 => ⟨kk' C2 h5 e5, nz' C2, fun h6' e6 => ?_⟩⟩
  have C3 := C2.s (by omega) (fun i hi => by omega) e5 e6
  refine ⟨ob, fun h7 e7 => ⟨kk' C3 h7 e7, nz' C3, fun h8 e8 => ?_⟩⟩
  have C4 := C3.s (by omega) (fun i hi => by omega) e7 e8
  refine ⟨ob, fun h9 e9 => ⟨kk' C4 h9 e9, nz' C4, fun h10 e10 => ?_⟩⟩
  have C5 := C4.s (by omega) (fun i hi => by omega) e9 e10
  clear e1 e2 e3 e4 e5 e6 e7 e8 e9 e10 C1 C2 C3 C4
  obtain ⟨c1, c2, c3, c4, c5, c6, c7, c8, c9⟩ := C5
  have low : ∀ b, b < a → same h h10 b := fun b hb => ((b4 b (by omega) (by omega)).tr (t6 b (by omega) (by omega))).tr (c4 b (by omega) (by omega))
  refine ⟨hρ, fun u1 v1 => ?_⟩
  have p1 : ∀ b, b ≠ a → same h10 u1 b := fun b hb => by rw [v1]; exact sR_same _ _ _ _ hb
  have L6 : am_L 6 ρ u1 := R.1.sm (M := 10) (by decide) (fun b y1 y2 => (low b (by omega)).tr (p1 b (by omega)))
  have q0 : hR u1 ρ 0 = ρ + 1 := L6.r 0 rfl
  refine ⟨L6.1, by rw [q0]; omega, fun u2 v2 => ?_⟩
  rw [q0] at v2
  have p2 : ∀ b, b ≠ a → same u1 u2 b := fun b hb => by rw [v2]; exact sR_same _ _ _ _ hb
  have q2 : hR u2 ρ 0 = ρ + 1 := by rw [(p2 ρ (by omega)).2.2.2.2]; exact q0
  have L2 : am_L 2 (ρ + 1) u2 := R.2.sm (M := 5) (by decide) (fun b y1 y2 => ((low b (by omega)).tr (p1 b (by omega))).tr (p2 b (by omega)))
  have q3 : hR u2 (ρ + 1) 1 = ρ + 1 + 2 := L2.r 1 rfl
  rw [q2]
  refine ⟨by omega, L2.1, by rw [q3]; omega, fun u3 v3 => ?_⟩
  have p3 : ∀ b, b ≠ a → same u2 u3 b := fun b hb => by rw [v3]; exact sR_same _ _ _ _ hb
  have pp : ∀ b, b ≠ a → same h10 u3 b := fun b hb => ((p1 b hb).tr (p2 b hb)).tr (p3 b hb)
  have rf : ∀ f, f < 12 → hR u3 a f = hR h10 a f := fun f hf => by
    rw [v3, sR_r, if_neg (by omega), v2, sR_r, if_neg (by omega), v1, sR_r, if_neg (by omega)]
  have EK : hK u3 a = hK h10 a := by rw [v3, v2, v1]; rfl
  have r10 : ∀ f, (∀ i, i < 5 → i + 2 ≠ f) → hR h10 a f = hR g6 a f := fun f hf => c9 f hf
  have dly : ∀ i, i < 3 → hR u3 a (i + 7) = a + 1 + i ∧ hK u3 (a + 1 + i) = 12 ∧ hN u3 (a + 1 + i) = l3 2 6 32 i := fun i hi => by
    obtain ⟨y1, y2, y3, _⟩ := b3 i hi
    have t := ((t6 (a + 1 + i) (by omega) (by omega)).tr (c4 (a + 1 + i) (by omega) (by omega))).tr (pp (a + 1 + i) (by omega))
    refine ⟨?_, t.1.trans y2, t.2.1.trans y3⟩
    rw [rf _ (by omega), r10 _ (fun j hj => by omega), r6, if_neg (by omega), if_neg (by omega)]
    exact y1
  have dl2 : ∀ i, i < 5 → hR u3 a (i + 2) = a + 8 + i ∧ hK u3 (a + 8 + i) = 12 ∧ hN u3 (a + 8 + i) = n := fun i hi => by
    obtain ⟨y1, y2, y3, _⟩ := c3 i hi
    have t := pp (a + 8 + i) (by omega)
    exact ⟨by rw [rf _ (by omega)]; exact y1, t.1.trans y2, t.2.1.trans y3⟩
  have B4 : BkL (a + 4) n u3 := ⟨K6.1.sm (M := 1) (by decide) (fun b y1 y2 => (c4 b (by omega) (by omega)).tr (pp b (by omega))), by rw [((c4 (a + 4 + 1) (by omega) (by omega)).tr (pp (a + 4 + 1) (by omega))).2.1]; exact K6.2.1, hn⟩
  have B6 : BkL (a + 6) n u3 := ⟨K6'.1.sm (M := 1) (by decide) (fun b y1 y2 => (c4 b (by omega) (by omega)).tr (pp b (by omega))), by rw [((c4 (a + 6 + 1) (by omega) (by omega)).tr (pp (a + 6 + 1) (by omega))).2.1]; exact K6'.2.1, hn⟩
  have d0 : hR u3 a 0 = a + 4 := by rw [rf 0 (by decide), r10 0 (fun j hj => by omega), r6]; rfl
  have d1 : hR u3 a 1 = a + 6 := by rw [rf 1 (by decide), r10 1 (fun j hj => by omega), r6]; rfl
  refine q u3 ⟨fun b hb => (low b hb).tr (pp b (by omega)), ?_, ?_⟩ ⟨⟨by rw [EK]; exact c5.trans k6, fun p hp => ?_⟩, B4, B6, (dly 0 (by decide)).2.2, (dly 1 (by decide)).2.2, (dly 2 (by decide)).2.2, (dl2 0 (by decide)).2.2, (dl2 1 (by decide)).2.2, (dl2 2 (by decide)).2.2, (dl2 3 (by decide)).2.2, (dl2 4 (by decide)).2.2⟩
  · rw [v3, v2, v1]; exact c1
  · have a1 : hS u3 = hS h10 := by rw [v3, v2, v1]; rfl
    have a2 : hS h6 = hS h + 40 := b2
    have a3 : smN (fun _ => n) 5 = 5 * n := by show 0 + n + n + n + n + n = _; omega
    rw [a1, c2, S6, a2, a3]
    omega
  · have hp : p ∈ [(7, 1, 12), (8, 2, 12), (9, 3, 12), (0, 4, 0), (1, 6, 0), (2, 8, 12), (3, 9, 12), (4, 10, 12), (5, 11, 12), (6, 12, 12)] := hp
    simp only [List.mem_cons, List.not_mem_nil, or_false] at hp
    rcases hp with e | e | e | e | e | e | e | e | e | e <;> subst e
    · exact ⟨(dly 0 (by decide)).1, (dly 0 (by decide)).2.1⟩
    · exact ⟨(dly 1 (by decide)).1, (dly 1 (by decide)).2.1⟩
    · exact ⟨(dly 2 (by decide)).1, (dly 2 (by decide)).2.1⟩
    · exact ⟨d0, B4.1.1⟩
    · exact ⟨d1, B6.1.1⟩
    · exact ⟨(dl2 0 (by decide)).1, (dl2 0 (by decide)).2.1⟩
    · exact ⟨(dl2 1 (by decide)).1, (dl2 1 (by decide)).2.1⟩
    · exact ⟨(dl2 2 (by decide)).1, (dl2 2 (by decide)).2.1⟩
    · exact ⟨(dl2 3 (by decide)).1, (dl2 3 (by decide)).2.1⟩
    · exact ⟨(dl2 4 (by decide)).1, (dl2 4 (by decide)).2.1⟩
end INIT
