/-! The reference's day(sides) and costAll. -/
theorem hlast1439 : ∀ p, p ≤ 1440 → ((1439 : Int32) < nI p ↔ 0 + 1440 ≤ p) := by
  intro p hp
  have e : (1439 : Int32) = nI 1439 := by decide
  rw [e, nI_ltI (by decide) (by omega)]
  omega
theorem sdf_01 {kd sd : Nat → Int32} {x : Int32} {p : Nat} (h : sd p = 0 ∨ sd p = 1) : sdf kd sd x p = 0 ∨ sdf kd sd x p = 1 := by
  unfold sdf
  split
  · split
    · exact h
    · obtain ⟨j, hj, e⟩ := pk_andE (x >>> (nI (chs kd p) &&& 31)) (m := 1) 1 (by decide)
      rw [e]
      have : j = 0 ∨ j = 1 := by omega
      rcases this with rfl | rfl
      · exact Or.inl (by decide)
      · exact Or.inr (by decide)
  · exact h
/-- what a call that only asks changes of the model: rows 15 to 36, a few fields -/
def FrZ (m : Nat) (h h' : am_H) : Prop := hK h' = hK h ∧ hN h' = hN h ∧ hR h' = hR h ∧ hZ h' = hZ h ∧ hS h' = hS h ∧ (∀ a, a ≠ m → (a < m + 15 ∨ m + 36 < a) → hI h' a = hI h a) ∧ (∀ k, k ≠ 0 → k ≠ 36 → k ≠ 44 → k ≠ 48 → k ≠ 49 → k ≠ 50 → hI h' m k = hI h m k) ∧ (∀ a, a ≠ m → hJ h' a = hJ h a) ∧ ∀ k, k ≠ 53 → hJ h' m k = hJ h m k
theorem FrD.z {m : Nat} {h h' : am_H} (f : FrD m h h') : FrZ m h h' := by
  obtain ⟨a1, a2, a3, a4, a5, a6, a7, a8⟩ := f
  exact ⟨a1, a2, a4, a5, a6, fun a h1 h2 => a7 a h1 (by omega), fun k _ k1 k2 k3 k4 k5 => a8 k k1 k2 k3 k4 k5, fun a _ => by rw [a3], fun k _ => by rw [a3]⟩
theorem FrZ.rf {m : Nat} {h : am_H} : FrZ m h h := FrD.rf.z
theorem FrZ.tz {m : Nat} {h h1 h2 : am_H} (a : FrZ m h h1) (b : FrZ m h1 h2) : FrZ m h h2 := by
  obtain ⟨a1, a2, a3, a4, a5, a6, a7, a8, a9⟩ := a
  obtain ⟨b1, b2, b3, b4, b5, b6, b7, b8, b9⟩ := b
  exact ⟨b1.trans a1, b2.trans a2, b3.trans a3, b4.trans a4, b5.trans a5, fun x h1 h2 => (b6 x h1 h2).trans (a6 x h1 h2), fun k k0 k1 k2 k3 k4 k5 => (b7 k k0 k1 k2 k3 k4 k5).trans (a7 k k0 k1 k2 k3 k4 k5), fun x hx => (b8 x hx).trans (a8 x hx), fun k hk => (b9 k hk).trans (a9 k hk)⟩
theorem FrZ.tr {m : Nat} {h h1 h2 : am_H} (a : FrZ m h h1) (b : FrD m h1 h2) : FrZ m h h2 := a.tz b.z
theorem FrZ.md {m : Nat} {h h' : am_H} (f : FrZ m h h') (M : Md m h) : Md m h' := by
  obtain ⟨a1, a2, a3, -⟩ := f
  refine ⟨⟨by rw [a1]; exact M.1.1, fun q hq => by rw [a1, a3]; exact M.1.2 q hq⟩, fun q hq => by rw [a2]; exact M.2 q hq⟩
theorem FrZ.fld {m : Nat} {h h1 : am_H} {v : Int32} (F : FrZ m h h1) : FrZ m h (sI h1 m 0 v) :=
  F.tz ⟨rfl, rfl, rfl, rfl, rfl, fun a ha _ => by rw [sI_r, hI_rn _ _ ha], fun j _ _ _ _ _ _ => by rw [sI_r, hI_rs, va_up_ne]; omega, fun _ _ => rfl, fun _ _ => rfl⟩
theorem FrZ.row {m : Nat} {h h1 : am_H} {o : Nat} {f : Nat → Int32} (F : FrZ m h h1) (h1' : 15 ≤ o) (h2 : o ≤ 36) : FrZ m h (rI h1 (m + o) f) :=
  F.tz ⟨rfl, rfl, rfl, rfl, rfl, fun a _ ha => hI_rn _ _ (by omega), fun k _ _ _ _ _ _ => by rw [hI_rn _ _ (by omega)], fun _ _ => rfl, fun _ _ => rfl⟩
theorem FrZ.r {m : Nat} {h h' : am_H} (F : FrZ m h h') (o : Nat) (h0 : 0 < o) (h1 : o < 15 ∨ 36 < o) : hI h' (m + o) = hI h (m + o) := F.2.2.2.2.2.1 _ (by omega) (by omega)
section RDAY2
variable {w : am_W} {d : Nat} {h : am_H} {Q : Option Value → am_H → Prop} {m : Nat}
/-- worked of a law gives lf of the facts, whatever a day has changed -/
def LawU (w : am_W) (d m : Nat) (h : am_H) (u : Int32) (lf : (Nat → Int32) → Int32) : Prop := 0 ≤ u → ∀ e h2, FrZ m h h2 → ∀ Q2 : Option Value → am_H → Prop, (∀ h3, FrE m h2 h3 → Q2 (some (.int (lf (hI h2 (m + 24))))) h3) → EvM w mX10_worked (d + e) [.ref m, .int u] h2 Q2
theorem LawU.fr {u : Int32} {lf : (Nat → Int32) → Int32} {h1 : am_H} (L : LawU w d m h u lf) (F : FrZ m h h1) : LawU w d m h1 u lf := fun h0 e h2 F2 Q2 q2 => L h0 e h2 (F.tz F2) Q2 q2
theorem LawU.D {u : Int32} {lf : (Nat → Int32) → Int32} (L : LawU w d m h u lf) (hu : hI h m 50 = u) : LawD w d m h lf := by
  intro h0 h2 F2 Q2 q2
  rw [hu] at h0 ⊢
  exact L h0 0 h2 F2.z Q2 q2
/-- what a day of the reference needs of the river at hand -/
def RvD (w : am_W) (d m : Nat) (h : am_H) (N room : Nat) (trip : Int32) (lf : (Nat → Int32) → Int32) : Prop :=
  Md m h ∧ hI h (m + 2) 7 = nI N ∧ N ≤ 16 ∧ (∀ p, p < N → hI h (m + 7) p = 0 ∨ hI h (m + 7) p = 1) ∧ lfC lf ∧ LawU w d m h (hI h (m + 2) 8) lf ∧ hI h (m + 2) 0 = nI room ∧ 0 < room ∧ room < 2 ^ 30 ∧ hI h (m + 2) 1 = trip
theorem FrD.r {m : Nat} {h h' : am_H} (F : FrD m h h') (o : Nat) (h0 : 0 < o) (h1 : o < 15 ∨ 34 < o) : hI h' (m + o) = hI h (m + o) := F.2.2.2.2.2.2.1 _ (by omega) (by omega)
theorem RvD.fr {N room : Nat} {trip : Int32} {lf : (Nat → Int32) → Int32} {h1 : am_H} (R : RvD w d m h N room trip lf) (F : FrZ m h h1) : RvD w d m h1 N room trip lf := by
  obtain ⟨r1, r2, r3, r4, r5, r6, r7, r8, r9, r10⟩ := R
  have e2 := F.r 2 (by decide) (Or.inl (by decide))
  have e7 := F.r 7 (by decide) (Or.inl (by decide))
  exact ⟨F.md r1, by rw [e2]; exact r2, r3, by rw [e7]; exact r4, r5, by rw [e2]; exact r6.fr F, by rw [e2]; exact r7, r8, r9, by rw [e2]; exact r10⟩
/-- the day by a choice of sides -/
def dayS (h : am_H) (m : Nat) (x : Int32) (N room : Nat) (trip : Int32) (lf : (Nat → Int32) → Int32) : rS := goS (tldP h m x N) N room trip lf 1440 0 (tldS h m N)
theorem c_day {x trip : Int32} {N room : Nat} {lf : (Nat → Int32) → Int32} (R : RvD w (d + 2) m h N room trip lf)
    (q : ∀ h', FrD m h h' → perS h' m = tldP h m x N → getS h' m = dayS h m x N room trip lf → Q none h') : EvM w mX10_day (d + 5) [.ref m, .int x] h Q := by
  obtain ⟨M, hN', hN2, hsd, hC, L, hr, hr0, hr2, ht⟩ := id R
  refine bX10_day_0 ⟨M.1, c_tellsAll M hN' hN2 (fun h2 F2 P2 S2 => ⟨rfl, (F2.md M).1, ?_⟩)⟩
  have P' := P2
  simp only [perS, tldP, Prod.mk.injEq] at P'
  have S' := S2
  simp only [getS, tldS, Prod.mk.injEq] at S'
  have e2 := F2.r 2 (by decide) (Or.inl (by decide))
  refine c_goesOn (B := 360) (a := 0) (k := 1440) (n := N) (room := room) (kr := 0) (trip := trip) (lf := lf) (F2.md M) P'.1 (by omega) ?_ hC ((L.fr F2.z).D P'.2.1) (by rw [e2]; exact hr) hr0 hr2 (by rw [e2]; exact ht) (by rw [S'.2.2.1]; decide) ?_ (by decide) (by decide) hlast1439 (fun h' F' P'' _ G' => ⟨rfl, q h' (F2.tr F') (P''.trans P2) ?_⟩)
  · intro p hp
    rw [P'.2.2.1]
    simp only [upto]
    rw [if_pos hp]
    exact sdf_01 (hsd p hp)
  · have := cnt_le (hI h2 (m + 30)) N
    omega
  · rw [G', P2, S2]
    rfl
/-- the cost of all but one -/
def cstS (co g at_ : Nat → Int32) (but : Int32) : Nat → Int32
  | 0 => 0
  | p + 1 => cstS co g at_ but p + if nI p = but then 0 else co p * wof g at_ p
theorem c_costAll {but : Int32} {n : Nat} (M : Md m h) (hn : hI h m 36 = nI n) (hn2 : n ≤ 360) (q : Q (some (.int (cstS (hI h (m + 28)) (hI h (m + 30)) (hI h (m + 26)) but n))) h) : EvM w mX10_costAll (d + 1) [.ref m, .int but] h Q := by
  refine bX10_costAll_0 ?_
  have loop : ∀ k p : Nat, p + k = n → Ev w (am_Z w) mX10_costAll (d + 1) 4 [(0, .ref m), (1, .int but), (2, .int (cstS (hI h (m + 28)) (hI h (m + 30)) (hI h (m + 26)) but p)), (3, .int (nI p))] [] h Q := by
    intro k
    induction k with
    | zero =>
      intro p hp
      have hp : p = n := by omega
      subst hp
      exact bX10_costAll_4 ⟨M.1, fun _ => q, fun c => absurd (by rw [hn]; exact Int32.le_refl _) c⟩
    | succ k ih =>
      intro p hp
      have hpc : (nI p).toNatClampNeg = p := nI_clamp (by omega)
      have ih := ih (p + 1) (by omega)
      rw [cstS] at ih
      refine bX10_costAll_4 ⟨M.1, fun c => absurd c (by rw [hn, nI_leI (by omega) (by omega)]; omega), fun _ => ⟨fun c => ?_, fun c => ⟨M.in 27 rfl rfl (show p < 360 by omega) (by decide), c_waitOf M (by omega) ⟨_, rfl, ?_⟩⟩⟩⟩
      · rw [if_pos c] at ih
        rw [(nI_succ p).symm]
        exact ih
      · rw [if_neg c] at ih
        rw [(nI_succ p).symm, hpc]
        exact ih
  exact loop n 0 (by omega)
end RDAY2
