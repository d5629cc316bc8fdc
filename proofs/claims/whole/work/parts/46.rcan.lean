/-! A river as a value, and its day; the reference's answers that look at a day. -/
/-- a river at hand: people, room, trip, boats, kinds, sides, times, weights, costs, the law's number, the law -/
abbrev rV : Type := Nat × Nat × Int32 × Int32 × (Nat → Int32) × (Nat → Int32) × (Nat → Int32) × (Nat → Int32) × (Nat → Int32) × Int32 × ((Nat → Int32) → Int32)
def vN (r : rV) : Nat := r.1
def vRoom (r : rV) : Nat := r.2.1
def vTrip (r : rV) : Int32 := r.2.2.1
def vBoats (r : rV) : Int32 := r.2.2.2.1
def vKd (r : rV) : Nat → Int32 := r.2.2.2.2.1
def vSd (r : rV) : Nat → Int32 := r.2.2.2.2.2.1
def vAt (r : rV) : Nat → Int32 := r.2.2.2.2.2.2.1
def vWt (r : rV) : Nat → Int32 := r.2.2.2.2.2.2.2.1
def vCo (r : rV) : Nat → Int32 := r.2.2.2.2.2.2.2.2.1
def vUse (r : rV) : Int32 := r.2.2.2.2.2.2.2.2.2.1
def vLf (r : rV) : (Nat → Int32) → Int32 := r.2.2.2.2.2.2.2.2.2.2
def canP (r : rV) (x : Int32) : rP := (nI (vN r), vUse r, sdf (vKd r) (vSd r) x, vAt r, vWt r, vCo r, fun p => cof (vKd r p))
def canS (r : rV) : rS := (fun _ => -1, fun _ => -1, 0, fun _ => 0, fun _ => 0, fun _ => 0, 0, if vBoats r = 2 then 0 else 100000)
/-- the first k minutes of a day by a choice of sides (-1: as told) -/
def dayK (r : rV) (x : Int32) (k : Nat) : rS := goS (canP r x) (vN r) (vRoom r) (vTrip r) (vLf r) k 0 (canS r)
/-- the model holds the river r at hand -/
def RvC (w : am_W) (d m : Nat) (h : am_H) (r : rV) : Prop :=
  RvD w d m h (vN r) (vRoom r) (vTrip r) (vLf r) ∧ hI h (m + 2) 8 = vUse r ∧ hI h (m + 2) 2 = vBoats r ∧ eqR (vN r) (hI h (m + 7)) (vSd r) ∧ eqR (vN r) (hI h (m + 8)) (vAt r) ∧ eqR (vN r) (hI h (m + 9)) (vWt r) ∧ eqR (vN r) (hI h (m + 10)) (vCo r) ∧ eqR (vN r) (hI h (m + 11)) (vKd r)
/-- a day's people and state in the model are those of the river -/
def DyC (m : Nat) (h' : am_H) (r : rV) (x : Int32) (n k : Nat) (S : rS) : Prop := hI h' m 36 = nI n ∧ eqP (vN r) (perS h' m) (canP r x) ∧ eqR (vN r) (hI h' (m + 28)) (vCo r) ∧ k ≤ 360 ∧ k + cnt (hI h' (m + 30)) n ≤ n ∧ eqS n k (getS h' m) S
theorem upto_eq {N : Nat} {f g j : Nat → Int32} (e : eqR N f j) : eqR N (upto N f g) j := by
  intro p hp
  simp only [upto]
  rw [if_pos hp]
  exact e p hp
theorem RvC.fr {w : am_W} {d m : Nat} {h h1 : am_H} {r : rV} (R : RvC w d m h r) (F : FrZ m h h1) : RvC w d m h1 r := by
  obtain ⟨r1, r2, r3, r4, r5, r6, r7, r8⟩ := R
  rw [← F.r 2 (by decide) (Or.inl (by decide))] at r2 r3
  rw [← F.r 7 (by decide) (Or.inl (by decide))] at r4
  rw [← F.r 8 (by decide) (Or.inl (by decide))] at r5
  rw [← F.r 9 (by decide) (Or.inl (by decide))] at r6
  rw [← F.r 10 (by decide) (Or.inl (by decide))] at r7
  rw [← F.r 11 (by decide) (Or.inl (by decide))] at r8
  exact ⟨r1.fr F, r2, r3, r4, r5, r6, r7, r8⟩
theorem RvC.up {w : am_W} {d m : Nat} {h : am_H} {r : rV} (j : Nat) (R : RvC w d m h r) : RvC w (d + j) m h r := by
  obtain ⟨⟨M, a1, a2, a3, a4, L, a5⟩, r2⟩ := R
  refine ⟨⟨M, a1, a2, a3, a4, fun h0 e h2 F2 Q2 q2 => ?_, a5⟩, r2⟩
  rw [Nat.add_assoc]
  exact L h0 (j + e) h2 F2 Q2 q2
section RCAN
variable {w : am_W} {d : Nat} {h : am_H} {Q : Option Value → am_H → Prop} {m : Nat} {r : rV}
/-- behind tellsAll -/
theorem RvC.tld {x : Int32} (R : RvC w d m h r) {h2 : am_H} (F2 : FrD m h h2) (P2 : perS h2 m = tldP h m x (vN r)) (S2 : getS h2 m = tldS h m (vN r)) : DyC m h2 r x (vN r) 0 (canS r) := by
  obtain ⟨⟨M, hN', hN2, hsd, hC, L, hr, hr0, hr2, ht⟩, r2, r3, r4, r5, r6, r7, r8⟩ := R
  have P' := P2
  simp only [perS, tldP, Prod.mk.injEq] at P'
  have S' := S2
  simp only [getS, tldS, Prod.mk.injEq] at S'
  refine ⟨P'.1, ?_, ?_, by decide, ?_, ?_⟩
  · rw [P2]
    refine ⟨r2, upto_eq (sdf_eq r8 r4), upto_eq r5, upto_eq r6, upto_eq (fun p hp => ?_)⟩
    show cof (hI h (m + 11) p) = cof (vKd r p)
    rw [r8 p hp]
  · rw [P'.2.2.2.2.2.1]
    exact upto_eq r7
  · have := cnt_le (hI h2 (m + 30)) (vN r)
    omega
  · rw [S2]
    refine ⟨upto_eq eqR.rf, upto_eq eqR.rf, rfl, rfl, fun p hp => absurd hp (by omega), fun p hp => absurd hp (by omega), fun p hp => absurd hp (by omega), rfl, ?_⟩
    show (if hI h (m + 2) 2 = 2 then _ else _) = if vBoats r = 2 then _ else _
    rw [r3]
/-- k minutes from a on, over a day's people as told -/
theorem c_goC {x : Int32} {a k kr : Nat} {last : Int32} {S : rS} (R : RvC w (d + 2) m h r) (D : DyC m h r x (vN r) kr S) (hak : a + k ≤ 1440) (hlast : ∀ p, p ≤ 1440 → (last < nI p ↔ a + k ≤ p))
    (q : ∀ h' k', FrD m h h' → DyC m h' r x (vN r) k' (goS (canP r x) (vN r) (vRoom r) (vTrip r) (vLf r) k a S) → hI h' (m + 26) = hI h (m + 26) → Q none h') : EvM w mX10_goesOn (d + 4) [.ref m, .int (nI a), .int last] h Q := by
  obtain ⟨⟨M, hN', hN2, hsd, hC, L, hr, hr0, hr2, ht⟩, r2, r3, r4, r5, r6, r7, r8⟩ := id R
  obtain ⟨d1, d2, d3, d4, d5, d6⟩ := D
  have hsd2 : ∀ p, p < vN r → hI h (m + 25) p = 0 ∨ hI h (m + 25) p = 1 := by
    intro p hp
    have e := d2.2.1 p hp
    have e : hI h (m + 25) p = sdf (vKd r) (vSd r) x p := e
    rw [e]
    refine sdf_01 ?_
    rw [← r4 p hp]
    exact hsd p hp
  have hlaw : hI h m 50 = hI h (m + 2) 8 := d2.1.trans r2.symm
  refine c_goesOn (B := vN r) (a := a) (k := k) (n := vN r) (room := vRoom r) (kr := kr) (trip := vTrip r) (lf := vLf r) M d1 (by omega) hsd2 hC (L.D hlaw) hr hr0 hr2 ht d6.2.2.1 d5 (by omega) hak hlast (fun h' F' P' R' G' => ?_)
  obtain ⟨kr', q1, q2⟩ := R'
  have P'' := P'
  simp only [perS, Prod.mk.injEq] at P''
  have hb : k * vN r ≤ 1440 * 16 := Nat.mul_le_mul (by omega) hN2
  obtain ⟨k2, e1, e2⟩ := goS_eq (room := vRoom r) (trip := vTrip r) (lf := vLf r) d2 k a (by omega) d6
  rw [← G'] at e2
  have hk2 : k2 = kr' := by
    have : nI k2 = nI kr' := e2.2.2.1.symm.trans q1
    exact (nI_eq (by omega) (by omega)).mp this
  subst hk2
  exact q h' k2 F' ⟨by rw [P''.1]; exact d1, by rw [P']; exact d2, by rw [P''.2.2.2.2.2.1]; exact d3, by omega, q2, e2⟩ P''.2.2.2.1
theorem c_dayC {x : Int32} (R : RvC w (d + 2) m h r) (q : ∀ h' k, FrD m h h' → DyC m h' r x (vN r) k (dayK r x 1440) → Q none h') : EvM w mX10_day (d + 5) [.ref m, .int x] h Q := by
  have M := R.1.1
  refine bX10_day_0 ⟨M.1, c_tellsAll M R.1.2.1 R.1.2.2.1 (fun h2 F2 P2 S2 => ⟨rfl, (F2.md M).1, ?_⟩)⟩
  exact c_goC (a := 0) (k := 1440) (R.fr F2.z) (R.tld F2 P2 S2) (by decide) hlast1439 (fun h' k' F' D' _ => ⟨rfl, q h' k' (F2.tr F') D'⟩)
end RCAN
