/-! What a run of calls has told so far, as a value; how the reference holds it. -/
/-- a river as told: persons, room, trip, boats, share, of, come, laws, kinds, sides, times, weights, costs, the laws -/
abbrev rT : Type := Nat × Nat × Nat × Nat × Nat × Nat × Nat × Nat × (Nat → Int32) × (Nat → Int32) × (Nat → Int32) × (Nat → Int32) × (Nat → Int32) × (Nat → (Nat → Int32) → Int32)
def tN (t : rT) : Nat := t.1
def tRoom (t : rT) : Nat := t.2.1
def tTrip (t : rT) : Nat := t.2.2.1
def tBoats (t : rT) : Nat := t.2.2.2.1
def tShare (t : rT) : Nat := t.2.2.2.2.1
def tOf (t : rT) : Nat := t.2.2.2.2.2.1
def tCome (t : rT) : Nat := t.2.2.2.2.2.2.1
def tLaws (t : rT) : Nat := t.2.2.2.2.2.2.2.1
def tKd (t : rT) : Nat → Int32 := t.2.2.2.2.2.2.2.2.1
def tSd (t : rT) : Nat → Int32 := t.2.2.2.2.2.2.2.2.2.1
def tAt (t : rT) : Nat → Int32 := t.2.2.2.2.2.2.2.2.2.2.1
def tWt (t : rT) : Nat → Int32 := t.2.2.2.2.2.2.2.2.2.2.2.1
def tCo (t : rT) : Nat → Int32 := t.2.2.2.2.2.2.2.2.2.2.2.2.1
def tLf (t : rT) : Nat → (Nat → Int32) → Int32 := t.2.2.2.2.2.2.2.2.2.2.2.2.2
/-- a river at hand, or on a mark: as told, the law that goes, how many ringings are told, which -/
abbrev rH : Type := rT × Int32 × Nat × (Nat → Int32)
/-- f p is a number of at most n for the first N -/
def leR (N n : Nat) (f : Nat → Int32) : Prop := ∀ p, p < N → ∃ k, k ≤ n ∧ f p = nI k
theorem leR.eq {N n : Nat} {f g : Nat → Int32} (h : leR N n f) (e : eqR N g f) : leR N n g := fun p hp => by
  rw [e p hp]; exact h p hp
def VT (t : rT) : Prop := tN t ≤ 16 ∧ (1 ≤ tRoom t ∧ tRoom t ≤ 40) ∧ tTrip t ≤ 99 ∧ (tBoats t = 1 ∨ tBoats t = 2) ∧ (1 ≤ tShare t ∧ tShare t < tOf t ∧ tOf t ≤ 9) ∧ tCome t ≤ 1000 ∧ tLaws t ≤ 4 ∧ leR (tN t) 5 (tKd t) ∧ leR (tN t) 1 (tSd t) ∧ leR (tN t) 1439 (tAt t) ∧ leR (tN t) 999 (tWt t) ∧ leR (tN t) 99 (tCo t) ∧ chs (tKd t) (tN t) ≤ 8 ∧ ∀ l, l < tLaws t → lfC (tLf t l)
def VH (H : rH) : Prop := VT H.1 ∧ (∃ u, u ≤ tLaws H.1 ∧ H.2.1 = nI u - 1) ∧ H.2.2.1 ≤ 30 ∧ ∀ i, i < H.2.2.1 → (∃ a, a < 1440 ∧ H.2.2.2 i = nI a) ∧ ∀ j, j < i → H.2.2.2 j < H.2.2.2 i
def rvOf (H : rH) : rV := (tN H.1, tRoom H.1, nI (tTrip H.1), nI (tBoats H.1), tKd H.1, tSd H.1, tAt H.1, tWt H.1, tCo H.1, H.2.1, if 0 ≤ H.2.1 then tLf H.1 H.2.1.toNatClampNeg else fun _ => 0)
/-- codes from a to b are a law -/
def CdOK (cs : Nat → Int32) (a b : Nat) (lf : (Nat → Int32) → Int32) : Prop := ∀ V E0, ∃ e E, runW V cs (b - a) a 0 (opensE 0 E0) = some (e, E) ∧ testsE 0 E 15 0 = lf V
theorem runW_cg {V cs cs' : Nat → Int32} : ∀ (k : Nat) {a a' i : Nat} {E : Nat → Nat → Int32}, (∀ j, j < k → cs' (a' + j) = cs (a + j)) → runW V cs' k a' i E = runW V cs k a i E := by
  intro k
  induction k with
  | zero => intro a a' i E _; rfl
  | succ k ih =>
    intro a a' i E h
    have h0 := h 0 (by omega)
    rw [Nat.add_zero, Nat.add_zero] at h0
    rw [runW, runW, h0]
    cases stepW V (cs a) i E with
    | none => rfl
    | some x =>
      refine ih (fun j hj => ?_)
      have := h (j + 1) (by omega)
      rw [show a' + 1 + j = a' + (j + 1) by omega, show a + 1 + j = a + (j + 1) by omega]
      exact this
theorem CdOK.cg {cs cs' : Nat → Int32} {a b a' b' : Nat} {lf : (Nat → Int32) → Int32} (h : CdOK cs a b lf) (hb : b' - a' = b - a) (e : ∀ j, j < b - a → cs' (a' + j) = cs (a + j)) : CdOK cs' a' b' lf := by
  intro V E0
  obtain ⟨x, E, h1, h2⟩ := h V E0
  refine ⟨x, E, ?_, h2⟩
  rw [hb, runW_cg (b - a) e]
  exact h1
/-- a law's codes in a slot -/
def LnM (m : Nat) (h : am_H) (s l : Nat) (lf : (Nat → Int32) → Int32) : Prop := ∃ a b, hI h (m + 3) (4 * s + l) = nI a ∧ hI h (m + 4) (4 * s + l) = nI b ∧ 1000 * s ≤ a ∧ a ≤ b ∧ b ≤ 1000 * s + 1000 ∧ CdOK (hI h (m + 5)) a b lf
/-- a slot of the model holds a river -/
def Slt (m : Nat) (h : am_H) (s : Nat) (H : rH) : Prop := VH H ∧
  (hI h (m + 2) (10 * s) = nI (tRoom H.1) ∧ hI h (m + 2) (10 * s + 1) = nI (tTrip H.1) ∧ hI h (m + 2) (10 * s + 2) = nI (tBoats H.1) ∧ hI h (m + 2) (10 * s + 3) = nI (tShare H.1) ∧ hI h (m + 2) (10 * s + 4) = nI (tOf H.1) ∧ hI h (m + 2) (10 * s + 5) = nI (tCome H.1) ∧ hI h (m + 2) (10 * s + 6) = nI (tLaws H.1) ∧ hI h (m + 2) (10 * s + 7) = nI (tN H.1) ∧ hI h (m + 2) (10 * s + 8) = H.2.1 ∧ hI h (m + 2) (10 * s + 9) = nI H.2.2.1) ∧
  (eqR (tN H.1) (fun p => hI h (m + 7) (16 * s + p)) (tSd H.1) ∧ eqR (tN H.1) (fun p => hI h (m + 8) (16 * s + p)) (tAt H.1) ∧ eqR (tN H.1) (fun p => hI h (m + 9) (16 * s + p)) (tWt H.1) ∧ eqR (tN H.1) (fun p => hI h (m + 10) (16 * s + p)) (tCo H.1) ∧ eqR (tN H.1) (fun p => hI h (m + 11) (16 * s + p)) (tKd H.1)) ∧
  eqR H.2.2.1 (fun i => hI h (m + 12) (30 * s + i)) H.2.2.2 ∧ ∀ l, l < tLaws H.1 → LnM m h s l (tLf H.1 l)
/-- a slot's rows as another slot's -/
theorem Slt.mv {m : Nat} {h h' : am_H} {s t : Nat} {H : rH} (S : Slt m h s H) (e2 : ∀ k, k < 10 → hI h' (m + 2) (10 * t + k) = hI h (m + 2) (10 * s + k)) (e7 : ∀ o, 7 ≤ o → o ≤ 11 → ∀ k, k < 16 → hI h' (m + o) (16 * t + k) = hI h (m + o) (16 * s + k))
    (e12 : ∀ k, k < 30 → hI h' (m + 12) (30 * t + k) = hI h (m + 12) (30 * s + k)) (e5 : ∀ k, k < 1000 → hI h' (m + 5) (1000 * t + k) = hI h (m + 5) (1000 * s + k)) (e3 : ∀ k a, k < 4 → hI h (m + 3) (4 * s + k) = nI (1000 * s + a) → hI h' (m + 3) (4 * t + k) = nI (1000 * t + a)) (e4 : ∀ k a, k < 4 → hI h (m + 4) (4 * s + k) = nI (1000 * s + a) → hI h' (m + 4) (4 * t + k) = nI (1000 * t + a)) : Slt m h' t H := by
  obtain ⟨V, ⟨a0, a1, a2, a3, a4, a5, a6, a7, a8, a9⟩, ⟨b1, b2, b3, b4, b5⟩, c, L⟩ := S
  have hN : tN H.1 ≤ 16 := V.1.1
  have hT : H.2.2.1 ≤ 30 := V.2.2.1
  have hL : tLaws H.1 ≤ 4 := V.1.2.2.2.2.2.2.1
  have e20 := e2 0 (by decide)
  rw [Nat.add_zero, Nat.add_zero] at e20
  refine ⟨V, ⟨e20.trans a0, (e2 1 (by decide)).trans a1, (e2 2 (by decide)).trans a2, (e2 3 (by decide)).trans a3, (e2 4 (by decide)).trans a4, (e2 5 (by decide)).trans a5, (e2 6 (by decide)).trans a6, (e2 7 (by decide)).trans a7, (e2 8 (by decide)).trans a8, (e2 9 (by decide)).trans a9⟩,
    ⟨fun p hp => (e7 7 (by decide) (by decide) p (by omega)).trans (b1 p hp), fun p hp => (e7 8 (by decide) (by decide) p (by omega)).trans (b2 p hp), fun p hp => (e7 9 (by decide) (by decide) p (by omega)).trans (b3 p hp), fun p hp => (e7 10 (by decide) (by decide) p (by omega)).trans (b4 p hp), fun p hp => (e7 11 (by decide) (by decide) p (by omega)).trans (b5 p hp)⟩,
    fun i hi => (e12 i (by omega)).trans (c i hi), fun l hl => ?_⟩
  obtain ⟨a, b, l1, l2, l3, l4, l5, l6⟩ := L l hl
  refine ⟨1000 * t + (a - 1000 * s), 1000 * t + (b - 1000 * s), e3 l _ (by omega) (by rw [l1]; congr 1; omega), e4 l _ (by omega) (by rw [l2]; congr 1; omega), by omega, by omega, by omega, l6.cg (by omega) (fun j hj => ?_)⟩
  have := e5 (a - 1000 * s + j) (by omega)
  rw [show 1000 * t + (a - 1000 * s) + j = 1000 * t + (a - 1000 * s + j) by omega, this]
  congr 1
  omega
theorem Slt.cg {m : Nat} {h h' : am_H} {s : Nat} {H : rH} (S : Slt m h s H) (e : ∀ o, o ≠ 1 → 0 < o → o < 13 → o ≠ 6 → hI h' (m + o) = hI h (m + o)) : Slt m h' s H :=
  S.mv (fun k _ => by rw [e 2 (by decide) (by decide) (by decide) (by decide)]) (fun o h1 h2 k _ => by rw [e o (by omega) (by omega) (by omega) (by omega)]) (fun k _ => by rw [e 12 (by decide) (by decide) (by decide) (by decide)]) (fun k _ => by rw [e 5 (by decide) (by decide) (by decide) (by decide)]) (fun k a _ x => by rw [e 3 (by decide) (by decide) (by decide) (by decide)]; exact x) (fun k a _ x => by rw [e 4 (by decide) (by decide) (by decide) (by decide)]; exact x)
/-- all that a run has told: signs on the tape, the river at hand, which marks are laid, the marks -/
abbrev rA : Type := Nat × (Nat → Int32) × rH × (Nat → Bool) × (Nat → rH)
/-- the model holds it -/
def RepM (m : Nat) (h : am_H) (A : rA) : Prop := Md m h ∧ hI h m 1 = nI A.1 ∧ A.1 ≤ 1000 ∧ eqR A.1 (hI h (m + 1)) A.2.1 ∧ (∀ i, i < A.1 → A.2.1 i = 10 ∨ ∃ k, 32 ≤ k ∧ k ≤ 126 ∧ A.2.1 i = nI k) ∧ Slt m h 0 A.2.2.1 ∧ ∀ i, i < 4 → hI h (m + 37) i = (if A.2.2.2.1 i then 1 else 0) ∧ (A.2.2.2.1 i = true → Slt m h (2 + i) (A.2.2.2.2 i))
theorem RepM.fr {m : Nat} {h h' : am_H} {A : rA} (R : RepM m h A) (F : FrZ m h h') : RepM m h' A := by
  obtain ⟨M, a1, a2, a3, a3', a4, a5⟩ := R
  have e : ∀ o, 0 < o → o < 15 → hI h' (m + o) = hI h (m + o) := fun o h0 h1 => F.r o h0 (Or.inl h1)
  refine ⟨F.md M, ?_, a2, ?_, a3', a4.cg (fun o _ h0 h1 _ => e o h0 (by omega)), fun i hi => ⟨?_, fun c => ((a5 i hi).2 c).cg (fun o _ h0 h1 _ => e o h0 (by omega))⟩⟩
  · rw [F.2.2.2.2.2.2.1 1 (by decide) (by decide) (by decide) (by decide) (by decide) (by decide)]; exact a1
  · rw [e 1 (by decide) (by decide)]; exact a3
  · rw [F.r 37 (by decide) (Or.inr (by decide))]; exact (a5 i hi).1
theorem leR_01 {N : Nat} {f : Nat → Int32} (h : leR N 1 f) {p : Nat} (hp : p < N) : f p = 0 ∨ f p = 1 := by
  obtain ⟨k, hk, e⟩ := h p hp
  rw [e]
  have : k = 0 ∨ k = 1 := by omega
  rcases this with rfl | rfl
  · exact Or.inl (by decide)
  · exact Or.inr (by decide)
theorem VH.use {H : rH} (V : VH H) (h0 : 0 ≤ H.2.1) : ∃ l, l < tLaws H.1 ∧ H.2.1 = nI l := by
  obtain ⟨u, h1, h2⟩ := V.2.1
  cases u with
  | zero => rw [h2] at h0; exact absurd h0 (by decide)
  | succ u => exact ⟨u, by omega, by rw [h2, nI_pred]⟩
/-- the law that goes is worked as it is -/
theorem Slt.lawU {w : am_W} {d m : Nat} {h : am_H} {H : rH} (M : Md m h) (S : Slt m h 0 H) {l : Nat} (hl : l < tLaws H.1) {u : Int32} (hu : 0 ≤ u → u = nI l) : LawU w (d + 2) m h u (tLf H.1 l) := by
  intro h0 e h2 F2 Q2 q2
  obtain ⟨a, b, l1, l2, l3, l4, l5, l6⟩ := S.2.2.2.2 l hl
  have hL : tLaws H.1 ≤ 4 := S.1.1.2.2.2.2.2.2.1
  rw [hu h0, show d + 2 + e = d + e + 2 by omega]
  obtain ⟨x, E, r1, r2⟩ := l6 (hI h2 (m + 24)) (fun o => hI h2 (m + o))
  rw [Nat.mul_zero, Nat.zero_add] at l1 l2
  refine c_worked (l := l) (a := a) (b := b) (F2.md M) (by omega) (by rw [F2.r 3 (by decide) (Or.inl (by decide))]; exact l1) (by rw [F2.r 4 (by decide) (Or.inl (by decide))]; exact l2) l4 (by omega) (by rw [F2.r 5 (by decide) (Or.inl (by decide))]; exact r1) ?_
  rw [r2]
  exact q2 _ (FrE.putE _)
theorem Slt.rvD {w : am_W} {d m : Nat} {h : am_H} {H : rH} (M : Md m h) (S : Slt m h 0 H) : RvC w (d + 2) m h (rvOf H) := by
  obtain ⟨V, ⟨a0, a1, a2, a3, a4, a5, a6, a7, a8, a9⟩, ⟨b1, b2, b3, b4, b5⟩, c, L⟩ := id S
  obtain ⟨v1, v2, v3, v4, v5, v6, v7, v8, v9, v10, v11, v12, v13, v14⟩ := id V.1
  simp only [Nat.mul_zero, Nat.zero_add] at a0 a1 a2 a3 a4 a5 a6 a7 a8 a9 b1 b2 b3 b4 b5
  have U : LawU w (d + 2) m h (hI h (m + 2) 8) (vLf (rvOf H)) ∧ lfC (vLf (rvOf H)) := by
    by_cases h0 : 0 ≤ H.2.1
    · obtain ⟨l, h1, h2⟩ := V.use h0
      have hL : tLaws H.1 ≤ 4 := v7
      have e : vLf (rvOf H) = tLf H.1 l := by
        show (if 0 ≤ H.2.1 then tLf H.1 H.2.1.toNatClampNeg else fun _ => 0) = _
        rw [if_pos h0, h2, nI_clamp (by omega)]
      rw [e]
      exact ⟨S.lawU M h1 (fun _ => by rw [a8]; exact h2), v14 l h1⟩
    · have e : vLf (rvOf H) = fun _ => 0 := if_neg h0
      rw [e]
      exact ⟨fun h => absurd (by rw [a8] at h; exact h) h0, fun _ _ _ => rfl⟩
  refine ⟨⟨M, a7, v1, fun p hp => ?_, U.2, U.1, a0, by show 0 < tRoom H.1; omega, by show tRoom H.1 < 2 ^ 30; omega, a1⟩, a8, a2, b1, b2, b3, b4, b5⟩
  have e : hI h (m + 7) p = tSd H.1 p := b1 p hp
  rw [e]
  exact leR_01 v9 hp
theorem RepM.rv {w : am_W} {d m : Nat} {h : am_H} {A : rA} (R : RepM m h A) : RvC w (d + 2) m h (rvOf A.2.2.1) := R.2.2.2.2.2.1.rvD R.1
