/-! The class's crowds and rivers, as they are made. -/
section BUILT
variable {w : am_W} {d : Nat} {h : am_H} {Q : Option Value → am_H → Prop}
theorem c_crowdI {a n : Nat} (hz : hZ h = a + 1) (hk : hK h a = 2) (hn0 : 0 < n) (hn : n ≤ 300) (q : ∀ h', Bq h h' a (a + 1) (fun i => i) (fun _ => 12) (fun _ => n) 5 → Q none h') : EvM w mX2_init (d + 1) [.ref a, .int (nI n)] h Q := by
  have em : (if 0 < nI n then nI n else 0) = nI n := if_pos (by rw [← nI_0, nI_ltI (by decide) (by omega)]; exact hn0)
  have ec : (nI n).toNatClampNeg = n := nI_clamp (by omega)
  have ob : ¬ nI n < 0 ∧ (nI n).toNatClampNeg ≤ 50000000 := ⟨nI_pos (by omega), by rw [ec]; omega⟩
  have B0 : Bq h h a (a + 1) (fun i => i) (fun _ => 12) (fun _ => n) 0 := Bq.o hz
  have nz : ∀ {h' : am_H} {j : Nat}, Bq h h' a (a + 1) (fun i => i) (fun _ => 12) (fun _ => n) j → hZ h' ≠ 0 := fun B => by have := B.1; omega
  have kk : ∀ {h' : am_H} {j : Nat}, Bq h h' a (a + 1) (fun i => i) (fun _ => 12) (fun _ => n) j → ∀ h1, h1 = nA h' 12 n → hK h1 a = 2 := fun B h1 e => by
    rw [e, (nA_same _ _ _ (by have := B.1; omega)).1, B.2.2.2.2.1]; exact hk
  refine bX2_init_0 ?_
  rw [em, ec]
  rw [ec] at ob
  refine ⟨ob, fun h1 e1 => ⟨kk B0 h1 e1, nz B0, fun h2 e2 => ?_⟩⟩
  have B1 := B0.s (by omega) (fun i hi => by omega) e1 e2
  refine ⟨ob, fun h3 e3 => ⟨kk B1 h3 e3, nz B1, fun h4 e4 => ?_⟩⟩
  have B2 := B1.s (by omega) (fun i hi => by omega) e3 e4
  refine ⟨ob, fun h5 e5 => ⟨kk B2 h5 e5, nz B2, fun h6 e6 => ?_⟩⟩
  have B3 := B2.s (by omega) (fun i hi => by omega) e5 e6
  refine ⟨ob, fun h7 e7 => ⟨kk B3 h7 e7, nz B3, fun h8 e8 => ?_⟩⟩
  have B4 := B3.s (by omega) (fun i hi => by omega) e7 e8
  refine ⟨ob, fun h9 e9 => ⟨kk B4 h9 e9, nz B4, fun h10 e10 => ?_⟩⟩
  exact q h10 (B4.s (by omega) (fun i hi => by omega) e9 e10)
theorem Bq.crowd {h0 : am_H} {a n : Nat} {at_ wt ct : Nat → Int32} (B : Bq h0 h a (a + 1) (fun i => i) (fun _ => 12) (fun _ => n) 5) (hk : hK h0 a = 2) (hI0 : hI h0 a = (fun _ => 0)) (hn : n ≤ 300) : CwX a n 0 [] at_ wt ct h := by
  obtain ⟨b1, b2, b3, b4, b5, b6, b7, b8, b9⟩ := B
  refine ⟨⟨b5.trans hk, fun q hq => ?_⟩, ⟨(b3 0 (by decide)).2.2.1, (b3 1 (by decide)).2.2.1, (b3 2 (by decide)).2.2.1, (b3 3 (by decide)).2.2.1, (b3 4 (by decide)).2.2.1⟩, ⟨Nat.zero_le _, hn⟩, by rw [b7, hI0]; rfl, fun p hp => absurd hp (Nat.not_lt_zero _), fun p hp => absurd hp (Nat.not_lt_zero _), fun p hp => absurd hp (Nat.not_lt_zero _), ?_, ?_⟩
  · have hq : q ∈ [(0, 1, 12), (1, 2, 12), (2, 3, 12), (3, 4, 12), (4, 5, 12)] := hq
    simp only [List.mem_cons, List.not_mem_nil, or_false] at hq
    rcases hq with e | e | e | e | e <;> subst e
    · exact ⟨(b3 0 (by decide)).1, (b3 0 (by decide)).2.1⟩
    · exact ⟨(b3 1 (by decide)).1, (b3 1 (by decide)).2.1⟩
    · exact ⟨(b3 2 (by decide)).1, (b3 2 (by decide)).2.1⟩
    · exact ⟨(b3 3 (by decide)).1, (b3 3 (by decide)).2.1⟩
    · exact ⟨(b3 4 (by decide)).1, (b3 4 (by decide)).2.1⟩
  · exact ⟨List.Pairwise.nil, List.Perm.refl _⟩
  · exact trivial
def rvNs (i : Nat) : Nat := if i = 0 then 16 else if i = 1 then 16 else if i = 2 then 8 else if i = 3 then 5 else 0
set_option maxHeartbeats 1000000 in
theorem c_riverI {ρ : Nat} (hz : hZ h = ρ + 1) (hk : hK h ρ = 6) (hI0 : hI h ρ = (fun _ => 0)) (q : ∀ h', (∀ b, b < ρ → same h h' b) → hZ h' = ρ + 12 → hS h' = hS h + 131 → RvP ρ h' t0R (fun _ => 0) → hI h' ρ 14 = 0 → hR h' ρ 5 = ρ + 11 → hK h' (ρ + 11) = 12 → hN h' (ρ + 11) = 0 → Q none h') : EvM w mX6_init (d + 2) [.ref ρ] h Q := by
  refine bX6_init_0 (fun h1 e1 => ?_)
  have z1 : hZ h1 = ρ + 2 := by rw [e1]; show hZ h + 1 = _; omega
  have s1 : ∀ b, b ≠ ρ + 1 → same h h1 b := fun b hb => by rw [e1]; exact nO_same _ _ _ (by rw [hz]; exact hb)
  have nw := nO_new h 2 6
  rw [← e1, hz] at nw
  rw [hz]
  refine c_crowdI (n := 16) z1 nw.1 (by decide) (by decide) (fun h2 B2 => ⟨rfl, ?_⟩)
  have z2 : hZ h2 = ρ + 7 := B2.1
  have s2 : ∀ b, b < ρ + 1 → same h1 h2 b := fun b hb => B2.2.2.2.1 b (by omega) (by omega)
  have sρ := (s1 ρ (by omega)).tr (s2 ρ (by omega))
  have k2 : hK h2 ρ = 6 := sρ.1.trans hk
  refine ⟨k2, by omega, fun h6 e6 => ?_⟩
  have z6 : hZ h6 = ρ + 7 := by rw [e6]; exact z2
  have k6 : hK h6 ρ = 6 := by rw [e6]; exact k2
  have r6 : hR h6 ρ 0 = ρ + 1 := by rw [e6, sR_r, if_pos ⟨rfl, rfl⟩]
  have i6 : hI h6 ρ = (fun _ => 0) := by rw [e6]; exact sρ.2.2.1.trans hI0
  have c6 : CwX (ρ + 1) 16 0 [] (fun _ => 0) (fun _ => 0) (fun p => cof ((fun _ => (0 : Int32)) p)) h6 := by
    have := B2.crowd (at_ := fun _ => 0) (wt := fun _ => 0) (ct := fun p => cof ((fun _ => (0 : Int32)) p)) nw.1 nw.2.1 (by decide)
    exact this.sm (fun a y1 y2 => by rw [e6]; exact sR_same _ _ _ _ (by omega))
  have f6 : ∀ b, b < ρ → same h h6 b := fun b hb => by rw [e6]; exact ((s1 b (by omega)).tr (s2 b (by omega))).tr (sR_same _ _ _ _ (by omega))
  have q6 : hS h6 = hS h + 86 := by
    have a1 : hS h1 = hS h + 6 := by rw [e1]; rfl
    have a2 : hS h2 = hS h1 + smN (fun _ => 16) 5 := B2.2.1
    have a3 : hS h6 = hS h2 := by rw [e6]; rfl
    rw [a3, a2, a1]
    rfl
  clear e6
  have B0 : Bq h6 h6 ρ (ρ + 7) (fun i => i + 1) (fun _ => 12) rvNs 0 := Bq.o z6
  have nz : ∀ {h' : am_H} {j : Nat}, Bq h6 h' ρ (ρ + 7) (fun i => i + 1) (fun _ => 12) rvNs j → hZ h' ≠ 0 := fun B => by have := B.1; omega
  have kk : ∀ {h' : am_H} {j : Nat} (n : Nat), Bq h6 h' ρ (ρ + 7) (fun i => i + 1) (fun _ => 12) rvNs j → ∀ h1, h1 = nA h' 12 n → hK h1 ρ = 6 := fun n B h1 e => by
    rw [e, (nA_same _ _ _ (by have := B.1; omega)).1, B.2.2.2.2.1]; exact k6
  refine fun h7 e7 => ⟨kk 16 B0 h7 e7, nz B0, fun h10 e10 => ?_⟩
  have B1 := B0.s (by omega) (fun i hi => by omega) e7 e10
  refine fun h11 e11 => ⟨kk 16 B1 h11 e11, nz B1, fun h14 e14 => ?_⟩
  have B2' := B1.s (by omega) (fun i hi => by omega) e11 e14
  refine fun h15 e15 => ⟨kk 8 B2' h15 e15, nz B2', fun h18 e18 => ?_⟩
  have B3 := B2'.s (by omega) (fun i hi => by omega) e15 e18
  refine fun h19 e19 => ⟨kk 5 B3 h19 e19, nz B3, fun h22 e22 => ?_⟩
  have B4 := B3.s (by omega) (fun i hi => by omega) e19 e22
  refine fun h23 e23 => ⟨kk 0 B4 h23 e23, nz B4, fun h26 e26 => ?_⟩
  have B5 := B4.s (by omega) (fun i hi => by omega) e23 e26
  clear e7 e10 e11 e14 e15 e18 e19 e22 e23 e26 B1 B2' B3 B4
  intro h27 e27 h28 e28 h29 e29 h30 e30 h31 e31 h32 e32
  subst e27
  subst e28
  subst e29
  subst e30
  subst e31
  obtain ⟨b1, b2, b3, b4, b5, b6, b7, b8, b9⟩ := B5
  have ff : ∀ k, hI h32 ρ k = if k = 11 then 50 else if k = 10 then 2 else if k = 9 then 1 else if k = 8 then 1 else if k = 7 then 10 else if k = 6 then 40 else 0 := fun k => by
    rw [e32]
    simp only [sI_f]
    rw [b7, i6]
  have gg : ∀ b, b ≠ ρ → hI h32 b = hI h26 b := fun b hb => by
    rw [e32, sI_r, hI_rn _ _ hb, sI_r, hI_rn _ _ hb, sI_r, hI_rn _ _ hb, sI_r, hI_rn _ _ hb, sI_r, hI_rn _ _ hb, sI_r, hI_rn _ _ hb]
  have E : hK h32 = hK h26 ∧ hN h32 = hN h26 ∧ hJ h32 = hJ h26 ∧ hR h32 = hR h26 ∧ hZ h32 = hZ h26 ∧ hS h32 = hS h26 := by rw [e32]; exact ⟨rfl, rfl, rfl, rfl, rfl, rfl⟩
  obtain ⟨E1, E2, E3, E4, E5, E6⟩ := E
  clear e32
  have ss : ∀ b, b ≠ ρ → same h26 h32 b := fun b hb => ⟨by rw [E1], by rw [E2], gg b hb, by rw [E3], by rw [E4]⟩
  refine q h32 (fun b hb => ((f6 b hb).tr (b4 b (by omega) (by omega))).tr (ss b (by omega))) ?_ ?_ ⟨⟨?_, ?_⟩, ⟨[], c6.sm (fun a y1 y2 => (b4 a (by omega) (by omega)).tr (ss a (by omega)))⟩, fun p hp => absurd hp (Nat.not_lt_zero _), ⟨?_, fun p hp => absurd hp (Nat.not_lt_zero _)⟩, ⟨?_, fun p hp => absurd hp (Nat.not_lt_zero _)⟩, ⟨?_, fun p hp => absurd hp (Nat.not_lt_zero _)⟩, ⟨?_, ?_, ?_, ?_, ?_, ?_, ?_, ?_⟩, ?_, ?_⟩ ?_ ?_ ?_ ?_
  · rw [E5, b1]
  · rw [E6, b2, q6]; rfl
  · rw [E1, b5]; exact k6
  · intro p hp
    have hp : p ∈ [(0, 1, 2), (1, 7, 12), (2, 8, 12), (3, 9, 12), (4, 10, 12)] := hp
    simp only [List.mem_cons, List.not_mem_nil, or_false] at hp
    rw [E1, E4]
    rcases hp with e | e | e | e | e <;> subst e
    · refine ⟨?_, ?_⟩
      · rw [b9 0 (fun i hi => Nat.succ_ne_zero i)]; exact r6
      · exact ((b4 (ρ + 1) (by omega) (by omega)).1).trans c6.1.1
    · exact ⟨(b3 0 (by decide)).1, (b3 0 (by decide)).2.1⟩
    · exact ⟨(b3 1 (by decide)).1, (b3 1 (by decide)).2.1⟩
    · exact ⟨(b3 2 (by decide)).1, (b3 2 (by decide)).2.1⟩
    · exact ⟨(b3 3 (by decide)).1, (b3 3 (by decide)).2.1⟩
  · rw [E2]; exact (b3 0 (by decide)).2.2.1
  · rw [E2]; exact (b3 1 (by decide)).2.2.1
  · rw [E2]; exact (b3 2 (by decide)).2.2.1
  · rw [ff]; rfl
  · rw [ff]; rfl
  · rw [ff]; rfl
  · rw [ff]; rfl
  · rw [ff]; rfl
  · rw [ff]; rfl
  · rw [ff]; rfl
  · rw [ff]; rfl
  · rw [E2]; exact (b3 3 (by decide)).2.2.1
  · intro i hi
    rw [gg _ (by omega), (b3 3 (by decide)).2.2.2.1]
    rfl
  · rw [ff]; rfl
  · rw [E4]; exact (b3 4 (by decide)).1
  · rw [E1]; exact (b3 4 (by decide)).2.1
  · rw [E2]; exact (b3 4 (by decide)).2.2.1
end BUILT
