/-! The reference's wouldRing, goesOn, day, costAll. -/
/-- what wouldRing changes: rows 15 to 24 -/
def FrE (m : Nat) (h h' : am_H) : Prop := hK h' = hK h ∧ hN h' = hN h ∧ hJ h' = hJ h ∧ hR h' = hR h ∧ hZ h' = hZ h ∧ hS h' = hS h ∧ ∀ a, (a < m + 15 ∨ m + 24 < a) → hI h' a = hI h a
theorem FrE.rf {m : Nat} {h : am_H} : FrE m h h := ⟨rfl, rfl, rfl, rfl, rfl, rfl, fun _ _ => rfl⟩
theorem FrE.tr {m : Nat} {h h1 h2 : am_H} (a : FrE m h h1) (b : FrE m h1 h2) : FrE m h h2 := by
  obtain ⟨a1, a2, a3, a4, a5, a6, a7⟩ := a
  obtain ⟨b1, b2, b3, b4, b5, b6, b7⟩ := b
  exact ⟨b1.trans a1, b2.trans a2, b3.trans a3, b4.trans a4, b5.trans a5, b6.trans a6, fun x h1 => (b7 x h1).trans (a7 x h1)⟩
theorem FrE.md {m : Nat} {h h' : am_H} (f : FrE m h h') (M : Md m h) : Md m h' := by
  obtain ⟨a1, a2, a3, a4, -⟩ := f
  exact ⟨⟨by rw [a1]; exact M.1.1, fun q hq => by rw [a1, a4]; exact M.1.2 q hq⟩, fun q hq => by rw [a2]; exact M.2 q hq⟩
theorem FrE.row {m : Nat} {h h1 : am_H} {o k : Nat} {v : Int32} (F : FrE m h h1) (h1' : 15 ≤ o) (h2 : o ≤ 24) : FrE m h (sI h1 (m + o) k v) :=
  F.tr ⟨rfl, rfl, rfl, rfl, rfl, rfl, fun a ha => by rw [sI_r, hI_rn _ _ (by omega)]⟩
theorem FrE.putE {m : Nat} {h : am_H} (E : Nat → Nat → Int32) : FrE m h (putE h m E) := ⟨rfl, rfl, rfl, rfl, rfl, rfl, fun a ha => putE_o _ _ _ (by omega)⟩
theorem FrE.D {m : Nat} {h h' : am_H} (f : FrE m h h') : FrD m h h' := by
  obtain ⟨a1, a2, a3, a4, a5, a6, a7⟩ := f
  exact ⟨a1, a2, a3, a4, a5, a6, fun a _ ha => a7 a (by omega), fun k _ _ _ _ _ => by rw [a7 m (by omega)]⟩
theorem FrE.per {m : Nat} {h h' : am_H} (f : FrE m h h') : perS h' m = perS h m := by
  unfold perS
  rw [f.2.2.2.2.2.2 m (by omega), f.2.2.2.2.2.2 (m + 25) (by omega), f.2.2.2.2.2.2 (m + 26) (by omega), f.2.2.2.2.2.2 (m + 27) (by omega), f.2.2.2.2.2.2 (m + 28) (by omega), f.2.2.2.2.2.2 (m + 29) (by omega)]
theorem FrE.get {m : Nat} {h h' : am_H} (f : FrE m h h') : getS h' m = getS h m := by
  unfold getS
  rw [f.2.2.2.2.2.2 m (by omega), f.2.2.2.2.2.2 (m + 30) (by omega), f.2.2.2.2.2.2 (m + 31) (by omega), f.2.2.2.2.2.2 (m + 32) (by omega), f.2.2.2.2.2.2 (m + 33) (by omega), f.2.2.2.2.2.2 (m + 34) (by omega)]
/-- a waiting person added to the facts -/
def stV (sd at_ wt ct : Nat → Int32) (minute : Int32) (V : Nat → Int32) (p : Nat) : Nat → Int32 :=
  let V1 := va_up V (1 + sd p).toNatClampNeg (V (1 + sd p).toNatClampNeg + ct p)
  let V2 := va_up V1 (3 + sd p).toNatClampNeg (V1 (3 + sd p).toNatClampNeg + wt p)
  va_up V2 5 (if V2 5 < minute - at_ p then minute - at_ p else V2 5)
/-- the facts of the first p, and whether anybody waits -/
def acV (sd at_ wt ct g : Nat → Int32) (minute : Int32) (V : Nat → Int32) : Nat → (Nat → Int32) × Bool
  | 0 => (V, false)
  | p + 1 => if !decide (minute < at_ p) && decide (g p = -1) then (stV sd at_ wt ct minute (acV sd at_ wt ct g minute V p).1 p, true) else acV sd at_ wt ct g minute V p
def z16 (k : Nat) (V : Nat → Int32) : Nat → Int32 := fun i => if 1 ≤ i ∧ i < k then 0 else V i
theorem z16_1 (V : Nat → Int32) : z16 1 V = V := by funext i; simp only [z16]; rw [if_neg (by omega)]
theorem z16_s {k : Nat} (hk : 1 ≤ k) (V : Nat → Int32) : va_up (z16 k V) k 0 = z16 (k + 1) V := by
  funext i
  by_cases h : i = k
  · subst h; rw [va_up_self]; simp only [z16]; rw [if_pos (by omega)]
  · rw [va_up_ne _ _ h]; simp only [z16]
    by_cases h2 : 1 ≤ i ∧ i < k
    · rw [if_pos h2, if_pos (by omega)]
    · rw [if_neg h2, if_neg (by omega)]
/-- the facts at a minute -/
def fcV (P : rP) (g : Nat → Int32) (n : Nat) (minute : Int32) (V : Nat → Int32) : (Nat → Int32) × Bool :=
  (va_up (acV P.2.2.1 P.2.2.2.1 P.2.2.2.2.1 P.2.2.2.2.2.2 g minute (z16 7 V) n).1 6 minute, (acV P.2.2.1 P.2.2.2.1 P.2.2.2.2.1 P.2.2.2.2.2.2 g minute (z16 7 V) n).2)
/-- the law that goes, over the row of facts -/
def lwV (law : Int32) (lf : (Nat → Int32) → Int32) (V : Nat → Int32) : Bool := if 0 ≤ law then !decide (lf V = 0) else decide (V 1 = V 2) && !decide (V 1 ≤ 0)
def wrV (P : rP) (S : rS) (n : Nat) (lf : (Nat → Int32) → Int32) (minute : Int32) (V : Nat → Int32) : Bool :=
  (decide (S.2.2.2.2.2.2.1 ≤ minute) || decide (S.2.2.2.2.2.2.2 ≤ minute)) && ((fcV P S.1 n minute V).2 && lwV P.2.1 lf (fcV P S.1 n minute V).1)
section RWOULD
variable {w : am_W} {d : Nat} {h : am_H} {Q : Option Value → am_H → Prop} {m : Nat}
/-- worked gives lf of the facts, whatever the rows 15 to 24 hold -/
def LawOk (w : am_W) (d m : Nat) (h : am_H) (lf : (Nat → Int32) → Int32) : Prop := 0 ≤ hI h m 50 → ∀ h2, FrE m h h2 → ∀ Q2 : Option Value → am_H → Prop, (∀ h3, FrE m h2 h3 → Q2 (some (.int (lf (hI h2 (m + 24))))) h3) → EvM w mX10_worked d [.ref m, .int (hI h m 50)] h2 Q2
set_option maxHeartbeats 4000000 in
theorem c_wouldRing {minute : Int32} {n : Nat} {lf : (Nat → Int32) → Int32} (M : Md m h) (hn : hI h m 36 = nI n) (hn2 : n ≤ 360) (hsd : ∀ p, p < n → hI h (m + 25) p = 0 ∨ hI h (m + 25) p = 1) (hL : LawOk w d m h lf)
    (q : ∀ h', FrE m h h' → Q (some (.int (if wrV (perS h m) (getS h m) n lf minute (hI h (m + 24)) then 1 else 0))) h') : EvM w mX10_wouldRing (d + 1) [.ref m, .int minute] h Q := by
  -- behind the boats
  have body : (hI h m 48 ≤ minute ∨ hI h m 49 ≤ minute) → Ev w (am_Z w) mX10_wouldRing (d + 1) 22 [(0, .ref m), (1, .int minute), (2, .int 0), (3, .int 1)] [] h Q := by
    intro hbo
    have hwr : wrV (perS h m) (getS h m) n lf minute (hI h (m + 24)) = ((fcV (perS h m) (hI h (m + 30)) n minute (hI h (m + 24))).2 && lwV (hI h m 50) lf (fcV (perS h m) (hI h (m + 30)) n minute (hI h (m + 24))).1) := by
      show ((decide (hI h m 48 ≤ minute) || decide (hI h m 49 ≤ minute)) && (_ && _)) = _
      have : (decide (hI h m 48 ≤ minute) || decide (hI h m 49 ≤ minute)) = true := by
        rcases hbo with hb | hb
        · simp [hb]
        · simp [hb]
      rw [this, Bool.true_and]
      rfl
    rw [hwr] at q
    -- the people
    have loop : ∀ k p : Nat, p + k = n → ∀ hc, FrE m h hc → hI hc (m + 24) = (acV (hI h (m + 25)) (hI h (m + 26)) (hI h (m + 27)) (hI h (m + 29)) (hI h (m + 30)) minute (z16 7 (hI h (m + 24))) p).1 →
        Ev w (am_Z w) mX10_wouldRing (d + 1) 43 [(0, .ref m), (1, .int minute), (2, .int (if (acV (hI h (m + 25)) (hI h (m + 26)) (hI h (m + 27)) (hI h (m + 29)) (hI h (m + 30)) minute (z16 7 (hI h (m + 24))) p).2 then 1 else 0)), (3, .int (nI p))] [] hc Q := by
      intro k
      induction k with
      | zero =>
        intro p hp hc F hV
        have hp : p = n := by omega
        subst hp
        have Mc := F.md M
        have hcm : hI hc m = hI h m := F.2.2.2.2.2.2 m (by omega)
        refine bX10_wouldRing_43 ⟨Mc.1, fun _ => ⟨Mc.in 23 rfl (k := 6) (by decide) (by decide) (by decide), fun h3 e3 => ?_⟩, fun c => absurd ?_ c⟩
        · rw [cl6] at e3
          have F3 : FrE m h h3 := by rw [e3]; exact F.row (by decide) (by decide)
          have M3 := F3.md M
          have V3 : hI h3 (m + 24) = (fcV (perS h m) (hI h (m + 30)) p minute (hI h (m + 24))).1 := by rw [e3, sI_r, hI_rs, hV]; rfl
          have m3 : hI h3 m = hI h m := F3.2.2.2.2.2.2 m (by omega)
          have any : (fcV (perS h m) (hI h (m + 30)) p minute (hI h (m + 24))).2 = (acV (hI h (m + 25)) (hI h (m + 26)) (hI h (m + 27)) (hI h (m + 29)) (hI h (m + 30)) minute (z16 7 (hI h (m + 24))) p).2 := rfl
          rw [any] at q
          generalize (acV (hI h (m + 25)) (hI h (m + 26)) (hI h (m + 27)) (hI h (m + 29)) (hI h (m + 30)) minute (z16 7 (hI h (m + 24))) p).2 = bb at q
          generalize (fcV (perS h m) (hI h (m + 30)) p minute (hI h (m + 24))).1 = V at q V3
          refine ⟨fun c => ?_, fun c => ?_⟩
          · cases bb with
            | false => exact q h3 F3
            | true => exact absurd c (by decide)
          · cases bb with
            | false => exact absurd rfl c
            | true =>
              rw [m3]
              simp only [Bool.true_and, lwV] at q
              refine ⟨fun c2 => ?_, fun c2 => ⟨M3.in 23 rfl (k := 1) (by decide) (by decide) (by decide), M3.in 23 rfl (k := 2) (by decide) (by decide) (by decide), ?_⟩⟩
              · rw [if_pos c2] at q
                refine hL c2 h3 F3 _ (fun h4 F4 => ⟨_, rfl, fun c3 => ?_, fun c3 => ?_⟩)
                · rw [V3] at c3
                  have q := q h4 (F3.tr F4)
                  simpa [c3] using q
                · rw [V3] at c3
                  have q := q h4 (F3.tr F4)
                  simpa [c3] using q
              · rw [if_neg c2] at q
                have q := q h3 F3
                rw [cl1, cl2, V3]
                refine ⟨fun c3 => ⟨M3.in 23 rfl (k := 1) (by decide) (by decide) (by decide), fun c4 => ?_, fun c4 => ?_⟩, fun c3 => ?_⟩
                · simpa [c4] using q
                · simpa [c3, show ¬ V 2 ≤ 0 by rw [← c3]; exact c4] using q
                · simpa [c3] using q
        · rw [hcm, hn]
          exact Int32.le_refl _
      | succ k ih =>
        intro p hp hc F hV
        have Mc := F.md M
        have hcm : hI hc m = hI h m := F.2.2.2.2.2.2 m (by omega)
        have hpc : (nI p).toNatClampNeg = p := nI_clamp (by omega)
        have nx : nI p + 1 = nI (p + 1) := (nI_succ p).symm
        have hi25 : hI hc (m + 25) = hI h (m + 25) := F.2.2.2.2.2.2 _ (by omega)
        have hi26 : hI hc (m + 26) = hI h (m + 26) := F.2.2.2.2.2.2 _ (by omega)
        have hi27 : hI hc (m + 27) = hI h (m + 27) := F.2.2.2.2.2.2 _ (by omega)
        have hi29 : hI hc (m + 29) = hI h (m + 29) := F.2.2.2.2.2.2 _ (by omega)
        have hi30 : hI hc (m + 30) = hI h (m + 30) := F.2.2.2.2.2.2 _ (by omega)
        have hwt : wtg hc m minute p = (!decide (minute < hI h (m + 26) p) && decide (hI h (m + 30) p = -1)) := by unfold wtg; rw [hi26, hi30]
        refine bX10_wouldRing_43 ⟨Mc.1, fun c => absurd c ?_, fun _ => c_isWaiting Mc (by omega) ⟨_, rfl, fun c => ?_, fun c => ?_⟩⟩
        · rw [hcm, hn, nI_leI (by omega) (by omega)]
          omega
        · have hf : (!decide (minute < hI h (m + 26) p) && decide (hI h (m + 30) p = -1)) = false := by
            cases hh : (!decide (minute < hI h (m + 26) p) && decide (hI h (m + 30) p = -1)) with
            | false => rfl
            | true => rw [hwt, hh] at c; exact absurd c (by decide)
          have ih := ih (p + 1) (by omega) hc F
          rw [acV, hf] at ih
          rw [nx]
          exact ih hV
        · have hf : (!decide (minute < hI h (m + 26) p) && decide (hI h (m + 30) p = -1)) = true := by
            cases hh : (!decide (minute < hI h (m + 26) p) && decide (hI h (m + 30) p = -1)) with
            | true => rfl
            | false => rw [hwt, hh] at c; exact absurd rfl c
          have ih := ih (p + 1) (by omega)
          rw [acV, hf] at ih
          have i1 : ∃ j, j < 20 ∧ 1 + hI h (m + 25) p = nI j := by
            rcases hsd p (by omega) with e | e
            · exact ⟨1, by decide, by rw [e]; decide⟩
            · exact ⟨2, by decide, by rw [e]; decide⟩
          have i3 : ∃ j, j < 20 ∧ 3 + hI h (m + 25) p = nI j := by
            rcases hsd p (by omega) with e | e
            · exact ⟨3, by decide, by rw [e]; decide⟩
            · exact ⟨4, by decide, by rw [e]; decide⟩
          obtain ⟨j1, hj1, e1⟩ := i1
          obtain ⟨j3, hj3, e3⟩ := i3
          refine ⟨Mc.1, Mc.in 24 rfl rfl (show p < 360 by omega) (by decide), ?_⟩
          rw [hpc, hi25]
          refine ⟨Mc.in 23 rfl e1 hj1 (by decide), Mc.in 28 rfl rfl (show p < 360 by omega) (by decide), Mc.in 23 rfl e1 hj1 (by decide), fun h18 e18 => ?_⟩
          have F18 : FrE m h h18 := by rw [e18]; exact F.row (by decide) (by decide)
          have M18 := F18.md M
          have s25 : hI h18 (m + 25) = hI h (m + 25) := F18.2.2.2.2.2.2 _ (by omega)
          have s27 : hI h18 (m + 27) = hI h (m + 27) := F18.2.2.2.2.2.2 _ (by omega)
          refine ⟨M18.in 24 rfl rfl (show p < 360 by omega) (by decide), ?_⟩
          rw [s25]
          refine ⟨M18.in 23 rfl e3 hj3 (by decide), M18.in 26 rfl rfl (show p < 360 by omega) (by decide), M18.in 23 rfl e3 hj3 (by decide), fun h23 e23 => ?_⟩
          have F23 : FrE m h h23 := by rw [e23]; exact F18.row (by decide) (by decide)
          have M23 := F23.md M
          have s26 : hI h23 (m + 26) = hI h (m + 26) := F23.2.2.2.2.2.2 _ (by omega)
          refine ⟨M23.in 23 rfl (k := 5) (by decide) (by decide) (by decide), M23.in 25 rfl rfl (show p < 360 by omega) (by decide), M23.in 23 rfl (k := 5) (by decide) (by decide) (by decide), fun h27 e27 => ?_⟩
          rw [nx]
          refine ih h27 (by rw [e27]; exact F23.row (by decide) (by decide)) ?_
          rw [e27, sI_r, hI_rs, cl5, s26, e23, sI_r, hI_rs, s27, e18, sI_r, hI_rs, hi29, hV]
          rfl
    -- the zeros
    have zl : ∀ k p : Nat, 1 ≤ p → p + k = 7 → ∀ hc, FrE m h hc → hI hc (m + 24) = z16 p (hI h (m + 24)) → Ev w (am_Z w) mX10_wouldRing (d + 1) 22 [(0, .ref m), (1, .int minute), (2, .int 0), (3, .int (nI p))] [] hc Q := by
      intro k
      induction k with
      | zero =>
        intro p h1 hp hc F hV
        have hp : p = 7 := by omega
        subst hp
        exact bX10_wouldRing_22 ⟨fun _ => loop n 0 (by omega) hc F hV, fun c => absurd (by decide) c⟩
      | succ k ih =>
        intro p h1 hp hc F hV
        have hpc : (nI p).toNatClampNeg = p := nI_clamp (by omega)
        refine bX10_wouldRing_22 ⟨fun c => ?_, fun _ => ⟨(F.md M).1, (F.md M).in 23 rfl rfl (show p < 20 by omega) (by decide), fun h3 e3 => ?_⟩⟩
        · have : nI 7 ≤ nI p := c
          rw [nI_leI (by decide) (by omega)] at this
          omega
        · rw [hpc] at e3
          rw [(nI_succ p).symm]
          refine ih (p + 1) (by omega) (by omega) h3 (by rw [e3]; exact F.row (by decide) (by decide)) ?_
          rw [e3, sI_r, hI_rs, hV, z16_s h1]
    exact zl 6 1 (by decide) (by decide) h FrE.rf (z16_1 _).symm
  refine bX10_wouldRing_0 ⟨M.1, fun c => body (Or.inl c), fun c => ⟨fun c2 => body (Or.inr c2), fun c2 => ?_⟩⟩
  have q := q h FrE.rf
  have hz : wrV (perS h m) (getS h m) n lf minute (hI h (m + 24)) = false := by
    show ((decide (hI h m 48 ≤ minute) || decide (hI h m 49 ≤ minute)) && _) = false
    simp [c, c2]
  rw [hz] at q
  exact q
end RWOULD
