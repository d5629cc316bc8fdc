/-! The reference's river. -/
def t0R : rT := (0, 40, 10, 1, 1, 2, 50, 0, fun _ => 0, fun _ => 0, fun _ => 0, fun _ => 0, fun _ => 0, fun _ _ => 0)
def D0 (row : Nat → Int32) : LD := (0, fun _ => 0, t0R, fun _ => 0, 0, row, 0)
def rvR (A : rA) (K : Nat) (row : Nat → Int32) : P2 × LD := pAll (tKD A.2.1 A.1) (tPC A.2.1 A.1) (tNV A.2.1 A.1) (kyR A.2.1 A.1) K (K + 1) (0, 0) (D0 row)
def aRiv (A : rA) (K : Nat) (row : Nat → Int32) : Int32 := (rvR A K row).1.1
def oRiv (A : rA) (K : Nat) (row : Nat → Int32) : rA := if (rvR A K row).1.1 = 0 then (0, A.2.1, ((rvR A K row).2.2.2.1, (if 0 < tLaws (rvR A K row).2.2.2.1 then 0 else -1), 0, fun _ => 0), A.2.2.2) else (0, A.2.1, A.2.2)
theorem VT_0 : VT t0R := ⟨by decide, by decide, by decide, Or.inl rfl, by decide, by decide, by decide, fun p hp => absurd hp (Nat.not_lt_zero _), fun p hp => absurd hp (Nat.not_lt_zero _), fun p hp => absurd hp (Nat.not_lt_zero _), fun p hp => absurd hp (Nat.not_lt_zero _), fun p hp => absurd hp (Nat.not_lt_zero _), by decide, fun l hl => absurd hl (Nat.not_lt_zero _)⟩
theorem VD_0 {kd row : Nat → Int32} : VD kd (D0 row) 0 := ⟨by show (0 : Nat) < 32; decide, VT_0, fun j hj => absurd hj (Nat.not_lt_zero _), ⟨rfl, fun l hl => absurd hl (Nat.not_lt_zero _), 0, by decide, rfl, fun l hl => absurd hl (Nat.not_lt_zero _)⟩, Nat.le_refl _⟩
section RRIVER
variable {w : am_W} {d : Nat} {h : am_H} {Q : Option Value → am_H → Prop} {m : Nat}
set_option maxHeartbeats 1000000 in
theorem c_starts0 (M : Md m h) (q : ∀ h', FrO m h h' → hI h' m = hI h m → RvN m h' t0R → Q none h') : EvM w mX10_starts0 d [.ref m, .int 1] h Q := by
  refine bX10_starts0_0 ⟨M.1, M.in 1 rfl (k := 10) (by decide) (by decide) (by decide), fun h1 e1 => ?_⟩
  subst e1
  refine ⟨M.in 1 rfl (k := 11) (by decide) (by decide) (by decide), fun h2 e2 => ?_⟩
  subst e2
  refine ⟨M.in 1 rfl (k := 12) (by decide) (by decide) (by decide), fun h3 e3 => ?_⟩
  subst e3
  refine ⟨M.in 1 rfl (k := 13) (by decide) (by decide) (by decide), fun h4 e4 => ?_⟩
  subst e4
  refine ⟨M.in 1 rfl (k := 14) (by decide) (by decide) (by decide), fun h5 e5 => ?_⟩
  subst e5
  refine ⟨M.in 1 rfl (k := 15) (by decide) (by decide) (by decide), fun h6 e6 => ?_⟩
  subst e6
  refine ⟨M.in 1 rfl (k := 16) (by decide) (by decide) (by decide), fun h7 e7 => ?_⟩
  subst e7
  refine ⟨M.in 1 rfl (k := 17) (by decide) (by decide) (by decide), fun h8 e8 => ?_⟩
  subst e8
  refine ⟨M.in 1 rfl (k := 18) (by decide) (by decide) (by decide), fun h9 e9 => ?_⟩
  subst e9
  refine ⟨M.in 1 rfl (k := 19) (by decide) (by decide) (by decide), fun h10 e10 => ?_⟩
  rw [show Int32.toNatClampNeg ((10 * 1) + 0) = 10 by decide, show Int32.toNatClampNeg ((10 * 1) + 1) = 11 by decide, show Int32.toNatClampNeg ((10 * 1) + 2) = 12 by decide, show Int32.toNatClampNeg ((10 * 1) + 3) = 13 by decide, show Int32.toNatClampNeg ((10 * 1) + 4) = 14 by decide, show Int32.toNatClampNeg ((10 * 1) + 5) = 15 by decide, show Int32.toNatClampNeg ((10 * 1) + 6) = 16 by decide, show Int32.toNatClampNeg ((10 * 1) + 7) = 17 by decide, show Int32.toNatClampNeg ((10 * 1) + 8) = 18 by decide, show Int32.toNatClampNeg ((10 * 1) + 9) = 19 by decide] at e10
  have F : FrO m h h10 := by
    rw [e10]
    exact (((((((((FrO.v (by decide)).tr (FrO.v (by decide))).tr (FrO.v (by decide))).tr (FrO.v (by decide))).tr (FrO.v (by decide))).tr (FrO.v (by decide))).tr (FrO.v (by decide))).tr (FrO.v (by decide))).tr (FrO.v (by decide))).tr (FrO.v (by decide))
  have em : hI h10 m = hI h m := by
    have g : ∀ (g : am_H) (k : Nat) (v : Int32), hI (sI g (m + 2) k v) m = hI g m := fun g k v => by rw [sI_r, hI_rn _ _ (by omega)]
    rw [e10, g, g, g, g, g, g, g, g, g, g]
  refine q h10 F em ?_
  rw [e10]
  refine ⟨?_, ?_, ?_, ?_, ?_, ?_, ?_, ?_, ?_, ?_⟩ <;> (simp only [sI_f]; rfl)
theorem FrB.s1 {h2 : am_H} (F : FrB m h h2) : FrB m (sI h m 1 0) (sI h2 m 1 0) := by
  obtain ⟨a1, a2, a3, a4, a5, a6, a7, a8, a9, a10, a11, a12⟩ := F
  have g : ∀ (g : am_H) (a : Nat), a ≠ m → hI (sI g m 1 0) a = hI g a := fun g a ha => by rw [sI_r, hI_rn _ _ ha]
  refine ⟨a1, a2, a3, a4, a5, a6, fun a x => ?_, fun k x => ?_, fun k x => ⟨?_, ?_⟩, fun k x => ?_, fun o x y k z => ?_, ?_⟩
  · rw [g _ a (by omega), g _ a (by omega)]; exact a7 a x
  · rw [g _ _ (by omega), g _ _ (by omega)]; exact a8 k x
  · rw [g _ _ (by omega), g _ _ (by omega)]; exact (a9 k x).1
  · rw [g _ _ (by omega), g _ _ (by omega)]; exact (a9 k x).2
  · rw [g _ _ (by omega), g _ _ (by omega)]; exact a10 k x
  · rw [g _ _ (by omega), g _ _ (by omega)]; exact a11 o x y k z
  · rw [sI_f, if_pos rfl, sI_f, if_pos rfl]
set_option maxHeartbeats 1000000 in
theorem c_readsAllR {n K : Nat} {s row : Nat → Int32} {R : P2 × LD} (M : Md m h) (eK : K = 1000) (h1 : hI h m 1 = nI n) (hn : n ≤ 1000) (hs : eqR n (hI h (m + 1)) s)
    (eR : pAll (tKD s n) (tPC s n) (tNV s n) (kyR s n) K (K + 1) (0, 0) (D0 row) = R)
    (q1 : ∀ h' j D', FrB m (sI h m 1 0) h' → TM m h' s n j → DM m h' s n D' j → VD (tKD s n) D' j → R = ((0, j), D') → j ≤ 1000 → Q (some (.int 1)) h')
    (q0 : ∀ h', FrB m (sI h m 1 0) h' → hI h' m 9 = R.1.1 → ¬ R.1.1 = 0 → Q (some (.int 0)) h') : EvM w mX10_readsAll (d + 4) [.ref m] h Q := by
  obtain ⟨N, n1, n2, n3⟩ := ntk s n
  have hzz : ∀ i, N ≤ i → tKD s n i = 0 := fun i hi => tKD_z.mpr (n3 i hi)
  refine bX10_readsAll_0 ⟨M.1, c_starts0 M (fun h2 F2 e2 R2 => ⟨rfl, ?_⟩)⟩
  have M2 : Md m h2 := by
    obtain ⟨f1, f2, f3, _⟩ := F2
    unfold Md am_L at *
    rw [f1, f2, f3]
    exact M
  refine ⟨M2.1, fun h5 e5 h6 e6 h7 e7 h8 e8 h9 e9 => ?_⟩
  subst e5
  subst e6
  have g1 : hI (sI (sI h2 m 22 0) m 21 1000) m 1 = nI n := by rw [sI_f, if_neg (by decide), sI_f, if_neg (by decide), e2]; exact h1
  rw [g1] at e7
  subst e7
  subst e8
  have f9 : ∀ j, hI h9 m j = if j = 4 then 0 else if j = 1 then 0 else if j = 3 then nI n else if j = 21 then 1000 else if j = 22 then 0 else hI h2 m j := fun j => by
    rw [e9]
    simp only [sI_f]
  have r9 : ∀ a, a ≠ m → hI h9 a = hI h2 a := fun a ha => by
    rw [e9, sI_r, hI_rn _ _ ha, sI_r, hI_rn _ _ ha, sI_r, hI_rn _ _ ha, sI_r, hI_rn _ _ ha, sI_r, hI_rn _ _ ha]
  have M9 : Md m h9 := by rw [e9]; exact M2
  have E1 : hK h9 = hK h2 := by rw [e9]; rfl
  have E2 : hN h9 = hN h2 := by rw [e9]; rfl
  have E3 : hR h9 = hR h2 := by rw [e9]; rfl
  have E4 : hZ h9 = hZ h2 := by rw [e9]; rfl
  have E5 : hS h9 = hS h2 := by rw [e9]; rfl
  have E6 : hJ h9 = hJ h2 := by rw [e9]; rfl
  clear e9
  have s9 : eqR n (hI h9 (m + 1)) s := by
    rw [r9 _ (by omega), F2.2.2.2.2.2.2.1 _ (by omega) (by omega)]
    exact hs
  refine c_nextToken (p := 0) M9 s9 hn (by rw [f9]; rfl) (by rw [f9]; rfl) (Nat.zero_le _) (fun h10 F10 T10 => ⟨rfl, ?_⟩)
  have T : TM m h10 s n 0 := ⟨F10.md M9, by rw [(F10.2.2.2.2.2.1 (m + 1) (by omega)).1]; exact s9, hn, T10⟩
  have fk : ∀ k v, ¬ k = 4 → ¬ k = 5 → ¬ k = 6 → ¬ k = 8 → hI h9 m k = v → hI h10 m k = v := fun k v x1 x2 x3 x4 e => by rw [F10.2.2.2.2.2.2 k x1 x2 x3 x4]; exact e
  have i2 : hI h10 (m + 2) = hI h2 (m + 2) := by rw [(F10.2.2.2.2.2.1 (m + 2) (by omega)).1, r9 _ (by omega)]
  have A : DM m h10 s n (D0 row) 0 := by
    refine ⟨fk 22 _ (by decide) (by decide) (by decide) (by decide) (by rw [f9]; show (0 : Int32) = nI (ftb 0); decide), ?_, ⟨fun p hp => absurd hp (Nat.not_lt_zero _), fun p hp => absurd hp (Nat.not_lt_zero _)⟩, 0, fk 21 _ (by decide) (by decide) (by decide) (by decide) (by rw [f9]; rfl), Nat.le_refl _, fun l hl => absurd hl (Nat.not_lt_zero _)⟩
    unfold RvN
    rw [i2]
    exact R2
  have FA : ∀ h', FrB m h10 h' → FrB m (sI h2 m 1 0) h' := fun h' F => by
    refine FrB.tr (m := m) (h1 := h10) ?_ F
    refine ⟨?_, ?_, ?_, ?_, ?_, fun a x y => ?_, fun a x => ?_, fun k _ => ?_, fun k _ => ⟨?_, ?_⟩, fun k _ => ?_, fun o _ _ k _ => ?_, ?_⟩
    · rw [F10.1, E1]; rfl
    · rw [F10.2.1, E2]; rfl
    · rw [F10.2.2.1, E3]; rfl
    · rw [F10.2.2.2.1, E4]; rfl
    · rw [F10.2.2.2.2.1, E5]; rfl
    · rw [(F10.2.2.2.2.2.1 a x).2, E6]; rfl
    · rw [(F10.2.2.2.2.2.1 a (by omega)).1, r9 a (by omega), sI_r, hI_rn _ _ (by omega)]
    · rw [i2, sI_r, hI_rn _ _ (by omega)]
    · rw [(F10.2.2.2.2.2.1 _ (by omega)).1, r9 _ (by omega), sI_r, hI_rn _ _ (by omega)]
    · rw [(F10.2.2.2.2.2.1 _ (by omega)).1, r9 _ (by omega), sI_r, hI_rn _ _ (by omega)]
    · rw [(F10.2.2.2.2.2.1 _ (by omega)).1, r9 _ (by omega), sI_r, hI_rn _ _ (by omega)]
    · rw [(F10.2.2.2.2.2.1 _ (by omega)).1, r9 _ (by omega), sI_r, hI_rn _ _ (by omega)]
    · rw [sI_f, if_pos rfl]; exact fk 1 _ (by decide) (by decide) (by decide) (by decide) (by rw [f9]; rfl)
  have FB : ∀ h', FrB m h10 h' → FrB m (sI h m 1 0) h' := fun h' F => F2.b.s1.tr (FA h' F)
  exact c_allLoop (K := K) (N := N) (h0 := h10) hzz (by omega) (by omega) (fun i hi => tNV_nI hi) (fun h' j D' F T' A' V' e _ hj => q1 h' j D' (FB h' F) T' A' V' e (by omega)) (fun h' F e ne => q0 h' (FB h' F) e ne) (K + 1) 0 (D0 row) h10 (by omega) (Nat.zero_le _) FrB.rf T A VD_0 eR
theorem FrB.md {h1 : am_H} (F : FrB m h h1) (M : Md m h) : Md m h1 := by
  obtain ⟨a1, a2, a3, _⟩ := F
  unfold Md am_L at *
  rw [a1, a2, a3]
  exact M
/-- the slots but the first stay -/
theorem FrB.slt {h1 : am_H} {k : Nat} {H : rH} (F : FrB m h h1) (hk : k ≠ 1) (S : Slt m h k H) : Slt m h1 k H := by
  obtain ⟨a1, a2, a3, a4, a5, a6, a7, a8, a9, a10, a11, a12⟩ := F
  exact S.mv (fun j hj => a8 _ (by omega)) (fun o h1 h2 j hj => a11 o h1 h2 _ (by omega)) (fun j hj => by rw [a7 _ (by omega)]) (fun j hj => a10 _ (by omega)) (fun j a hj x => by rw [(a9 _ (by omega)).1]; exact x) (fun j a hj x => by rw [(a9 _ (by omega)).2]; exact x)
theorem DM.slt {s : Nat → Int32} {n j : Nat} {D : LD} (A : DM m h s n D j) (V : VT D.2.2.1) (hj : j ≤ 1000) : Slt m h 1 (D.2.2.1, -1, 0, fun _ => 0) := by
  obtain ⟨a1, ⟨r0, r1, r2, r3, r4, r5, r6, r7, r8, r9⟩, ⟨a3, a3'⟩, c, a4, a5, a6⟩ := A
  refine ⟨⟨V, ⟨0, Nat.zero_le _, by show (-1 : Int32) = nI 0 - 1; decide⟩, Nat.zero_le _, fun i hi => absurd hi (Nat.not_lt_zero _)⟩, ⟨r0, r1, r2, r3, r4, r5, r6, r7, r8, r9⟩, ⟨fun p hp => (a3 p hp).1, fun p hp => (a3 p hp).2.1, fun p hp => (a3 p hp).2.2.1, fun p hp => (a3 p hp).2.2.2.1, fun p hp => (a3 p hp).2.2.2.2⟩, fun p hp => absurd hp (Nat.not_lt_zero _), fun l hl => ?_⟩
  obtain ⟨a, e, y1, y2, y3, y4, y5⟩ := a6 l hl
  exact ⟨1000 + a, 1000 + e, y1, y2, by omega, by omega, by omega, y5⟩
end RRIVER
