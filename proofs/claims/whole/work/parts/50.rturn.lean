/-! The reference's canTurn, turns, turn, asks. -/
theorem cnt_upl {g : Nat → Int32} {v : Int32} (hv : ¬ v = -1) {p : Nat} : ∀ n, cnt (va_up g p v) n ≤ cnt g n := by
  intro n
  induction n with
  | zero => exact Nat.le_refl _
  | succ n ih =>
    rw [cnt, cnt, va_ui]
    by_cases c : n = p
    · rw [if_pos c, if_neg hv]; omega
    · rw [if_neg c]; omega
def homS (p : Nat) (S : rS) : rS := (va_up S.1 p (-2), S.2)
/-- the day on which one goes home behind a minute -/
def trnS (r : rV) (a p : Nat) : rS := goS (canP r (-1)) (vN r) (vRoom r) (vTrip r) (vLf r) (1440 - (a + 1)) (a + 1) (homS p (dayK r (-1) (a + 1)))
def gain (r : rV) (p a : Nat) : Int32 := cstS (vCo r) (dayK r (-1) 1440).1 (vAt r) (nI p) (vN r) - cstS (vCo r) (trnS r a p).1 (vAt r) (nI p) (vN r)
def mayT (r : rV) (p minute : Int32) : Bool := decide (0 ≤ p ∧ p < nI (vN r)) && (decide (0 ≤ minute ∧ minute < 1440) && (decide (vKd r p.toNatClampNeg = 4) && wbh (dayK r (-1) 1440).1 (vAt r) minute p.toNatClampNeg))
def askL (r : rV) (minute : Int32) : Nat → Int32 × Int32
  | 0 => (-1, 0)
  | p + 1 => if mayT r (nI p) minute then (if (askL r minute p).1 < 0 ∨ (askL r minute p).2 < gain r p minute.toNatClampNeg then (nI p, gain r p minute.toNatClampNeg) else askL r minute p) else askL r minute p
theorem wbh_eq {n p : Nat} {g g' a a' : Nat → Int32} {minute : Int32} (hp : p < n) (h1 : eqR n g g') (h2 : eqR n a a') : wbh g a minute p = wbh g' a' minute p := by
  unfold wbh
  rw [h1 p hp, h2 p hp]
theorem mayT_p {r : rV} {p minute : Int32} (h : mayT r p minute = true) : (0 ≤ p ∧ p < nI (vN r)) ∧ 0 ≤ minute ∧ minute < 1440 := by
  unfold mayT at h
  simp only [Bool.and_eq_true, decide_eq_true_eq] at h
  exact ⟨h.1, h.2.1⟩
section RTURN
variable {w : am_W} {d : Nat} {h : am_H} {Q : Option Value → am_H → Prop} {m : Nat} {r : rV}
theorem c_canTurn {p minute : Int32} (R : RvC w (d + 2) m h r) (q : ∀ h', FrD m h h' → (mayT r p minute = true → ∃ k, DyC m h' r (-1) (vN r) k (dayK r (-1) 1440)) → Q (some (.int (if mayT r p minute then 1 else 0))) h') : EvM w mX10_canTurn (d + 6) [.ref m, .int p, .int minute] h Q := by
  have hN2 := R.1.2.2.1
  refine bX10_canTurn_0 ⟨R.1.1.1, c_isPersonM R.1.1 R.1.2.1 ⟨_, rfl, fun c => ?_, fun c => c_isMinuteM ⟨_, rfl, fun c2 => ?_, fun c2 => ⟨R.1.1.1, ?_⟩⟩⟩⟩
  · have e : mayT r p minute = false := by unfold mayT; rw [decide_eq_false (b01_z c)]; rfl
    rw [e] at q
    exact q h FrD.rf (fun c => by cases c)
  · have e : mayT r p minute = false := by unfold mayT; rw [decide_eq_false (b01_z c2)]; simp
    rw [e] at q
    exact q h FrD.rf (fun c => by cases c)
  · have c := b01_n c
    have c2 := b01_n c2
    have c' := c
    obtain ⟨j, hj, rfl⟩ := nI_of (Int32.not_lt.mpr c'.1)
    have c1 := c'.2
    rw [nI_ltI hj (by omega)] at c1
    have hc : (nI j).toNatClampNeg = j := nI_clamp hj
    have kd : hI h (m + 11) j = vKd r j := R.2.2.2.2.2.2.2 j c1
    refine ⟨R.1.1.in 10 rfl rfl (show j < 96 by omega) (by decide), fun c3 => c_dayC R (fun h3 k F3 D => ⟨rfl, (F3.md R.1.1).1, c_waitsBehind (F3.md R.1.1) (by omega) ⟨_, rfl, ?_, ?_⟩⟩), fun c3 => ?_⟩
    · split <;> decide
    · rw [hc, kd] at c3
      obtain ⟨d1, d2, d3, d4, d5, s1, s2, s3⟩ := id D
      have s1 : eqR (vN r) (hI h3 (m + 30)) (dayK r (-1) 1440).1 := s1
      have a1 : eqR (vN r) (hI h3 (m + 26)) (vAt r) := d2.2.2.1
      have e : mayT r (nI j) minute = wbh (hI h3 (m + 30)) (hI h3 (m + 26)) minute j := by
        unfold mayT
        rw [decide_eq_true c, decide_eq_true c2, hc, decide_eq_true c3, wbh_eq c1 s1 a1]
        rfl
      rw [← e]
      exact q h3 F3 (fun _ => ⟨k, D⟩)
    · rw [hc, kd] at c3
      have e : mayT r (nI j) minute = false := by
        unfold mayT
        rw [hc, decide_eq_false c3]
        simp
      rw [e] at q
      exact q h FrD.rf (fun c => by cases c)
theorem hlastN {a : Nat} (ha : a < 1440) : ∀ p, p ≤ 1440 → ((1439 : Int32) < nI p ↔ a + 1 + (1440 - (a + 1)) ≤ p) := by
  intro p hp
  rw [show (1439 : Int32) = nI 1439 by decide, nI_ltI (by decide) (by omega)]
  omega
set_option maxHeartbeats 2000000 in
theorem c_turns {p a k : Nat} (R : RvC w (d + 2) m h r) (D : DyC m h r (-1) (vN r) k (dayK r (-1) 1440)) (hp : p < vN r) (ha : a < 1440) (q : ∀ h', FrD m h h' → Q (some (.int (gain r p a))) h') : EvM w mX10_turns (d + 5) [.ref m, .int (nI p), .int (nI a)] h Q := by
  have M := R.1.1
  have hN2 := R.1.2.2.1
  have hpc : (nI p).toNatClampNeg = p := nI_clamp (by omega)
  obtain ⟨d1, d2, d3, d4, d5, s1, s2, s3⟩ := D
  have s1 : eqR (vN r) (hI h (m + 30)) (dayK r (-1) 1440).1 := s1
  have a1 : eqR (vN r) (hI h (m + 26)) (vAt r) := d2.2.2.1
  refine bX10_turns_0 ⟨M.1, c_costAll M d1 (by omega) ⟨_, rfl, M.1, c_tellsAll M R.1.2.1 hN2 (fun h2 F2 P2 S2 => ⟨rfl, (F2.md M).1, ?_⟩)⟩⟩
  rw [cst_eq (vN r) (Nat.le_refl _) d3 s1 a1]
  have hl : ∀ p, p ≤ 1440 → (nI a < nI p ↔ 0 + (a + 1) ≤ p) := by
    intro p hp
    rw [nI_ltI (by omega) (by omega)]
    omega
  refine c_goC (x := -1) (a := 0) (k := a + 1) (R.fr F2.z) (R.tld F2 P2 S2) (by omega) hl (fun h3 k3 F3 D3 _ => ⟨rfl, ((F2.tr F3).md M).1, ((F2.tr F3).md M).in 29 rfl rfl (show p < 360 by omega) (by decide), fun h4 e4 => ?_⟩)
  rw [hpc] at e4
  have F := F2.tr F3
  have F4 : FrD m h h4 := by rw [e4, sI_r]; exact F.row (by decide) (by decide)
  obtain ⟨e1, e2, e3, e4', e5, e6⟩ := D3
  have m4 : hI h4 m = hI h3 m := by rw [e4, sI_r, hI_rn _ _ (by omega)]
  have r4 : ∀ o, o ≠ 30 → hI h4 (m + o) = hI h3 (m + o) := fun o ho => by rw [e4, sI_r, hI_rn _ _ (by omega)]
  have g4 : hI h4 (m + 30) = va_up (hI h3 (m + 30)) p (-2) := by rw [e4, sI_r, hI_rs]
  have D4 : DyC m h4 r (-1) (vN r) k3 (homS p (dayK r (-1) (a + 1))) := by
    refine ⟨by rw [m4]; exact e1, ?_, by rw [r4 28 (by decide)]; exact e3, e4', ?_, ?_⟩
    · unfold perS
      rw [m4, r4 25 (by decide), r4 26 (by decide), r4 27 (by decide), r4 28 (by decide), r4 29 (by decide)]
      exact e2
    · rw [g4]
      have := cnt_upl (g := hI h3 (m + 30)) (v := -2) (by decide) (p := p) (vN r)
      omega
    · unfold getS
      rw [m4, g4, r4 31 (by decide), r4 32 (by decide), r4 33 (by decide), r4 34 (by decide)]
      obtain ⟨f1, f2⟩ := e6
      exact ⟨f1.up p (-2), f2⟩
  rw [(nI_succ a).symm]
  refine c_goC (x := -1) (a := a + 1) (k := 1440 - (a + 1)) (R.fr F4.z) D4 (by omega) (hlastN ha) (fun h5 k5 F5 D5 _ => ⟨rfl, ((F4.tr F5).md M).1, ?_⟩)
  obtain ⟨g1, g2, g3, g4', g5, g6, g7⟩ := D5
  have g6 : eqR (vN r) (hI h5 (m + 30)) (trnS r a p).1 := g6
  have a2 : eqR (vN r) (hI h5 (m + 26)) (vAt r) := g2.2.2.1
  refine c_costAll ((F4.tr F5).md M) g1 (by omega) ⟨_, rfl, ?_⟩
  rw [cst_eq (vN r) (Nat.le_refl _) g3 g6 a2]
  exact q h5 (F4.tr F5)
theorem c_turn {p minute : Int32} (R : RvC w (d + 2) m h r) (q : ∀ h', FrZ m h h' → hI h' m 0 = (if mayT r p minute then 0 else 1) → Q (some (.int (if mayT r p minute then gain r p.toNatClampNeg minute.toNatClampNeg else 0))) h') : EvM w mX10_turn (d + 7) [.ref m, .int p, .int minute] h Q := by
  refine bX10_turn_0 ⟨R.1.1.1, c_canTurn R (fun h2 F2 hD => ⟨_, rfl, fun c => ⟨(F2.md R.1.1).1, fun h6 e6 => ?_⟩, fun c => ⟨(F2.md R.1.1).1, fun h6 e6 => ?_⟩⟩)⟩
  · have e : mayT r p minute = false := by
      cases hh : mayT r p minute with
      | false => rfl
      | true => rw [hh] at c; exact absurd c (by decide)
    have e0 : hI h6 m 0 = 1 := by rw [e6, sI_r, hI_rs, va_up_self]
    rw [e] at q
    refine ⟨fun _ => ?_, fun c2 => absurd e0 c2⟩
    exact q h6 (by rw [e6]; exact F2.z.fld) e0
  · have e : mayT r p minute = true := by
      cases hh : mayT r p minute with
      | true => rfl
      | false => rw [hh] at c; exact absurd rfl c
    have e0 : hI h6 m 0 = 0 := by rw [e6, sI_r, hI_rs, va_up_self]
    rw [e] at q
    have F6 : FrZ m h h6 := by rw [e6]; exact F2.z.fld
    refine ⟨fun c2 => absurd c2 (by rw [e0]; decide), fun _ => ?_⟩
    obtain ⟨k, D⟩ := hD e
    obtain ⟨t1, t2⟩ := mayT_p e
    obtain ⟨j, hj, rfl⟩ := nI_of (Int32.not_lt.mpr t1.1)
    obtain ⟨a, ha, rfl⟩ := nI_of (Int32.not_lt.mpr t2.1)
    have hN2 := R.1.2.2.1
    have c1 := t1.2
    rw [nI_ltI hj (by omega)] at c1
    have c2 := t2.2
    rw [show (1440 : Int32) = nI 1440 by decide, nI_ltI ha (by decide)] at c2
    rw [nI_clamp hj, nI_clamp ha] at q
    have r6 : ∀ o, o ≠ 0 → hI h6 (m + o) = hI h2 (m + o) := fun o ho => by rw [e6, sI_r, hI_rn _ _ (by omega)]
    have f6 : ∀ k, k ≠ 0 → hI h6 m k = hI h2 m k := fun k hk => by rw [e6, sI_r, hI_rs, va_up_ne _ _ hk]
    have D6 : DyC m h6 r (-1) (vN r) k (dayK r (-1) 1440) := by
      obtain ⟨e1, e2, e3, e4', e5, e7⟩ := D
      refine ⟨by rw [f6 36 (by decide)]; exact e1, ?_, by rw [r6 28 (by decide)]; exact e3, e4', by rw [r6 30 (by decide)]; exact e5, ?_⟩
      · unfold perS
        rw [f6 36 (by decide), f6 50 (by decide), r6 25 (by decide), r6 26 (by decide), r6 27 (by decide), r6 28 (by decide), r6 29 (by decide)]
        exact e2
      · unfold getS
        rw [f6 44 (by decide), f6 48 (by decide), f6 49 (by decide), r6 30 (by decide), r6 31 (by decide), r6 32 (by decide), r6 33 (by decide), r6 34 (by decide)]
        exact e7
    refine c_turns (d := d + 1) ((R.fr F6).up 1) D6 c1 c2 (fun h7 F7 => ⟨_, rfl, ?_⟩)
    have q := q h7 (F6.tr F7) (by rw [F7.2.2.2.2.2.2.2 0 (by decide) (by decide) (by decide) (by decide) (by decide)]; exact e0)
    exact q
theorem c_asks {minute : Int32} (R : RvC w (d + 2) m h r) (q : ∀ h', FrZ m h h' → Q (some (.int (askL r minute (vN r)).1)) h') : EvM w mX10_asks (d + 7) [.ref m, .int minute] h Q := by
  refine bX10_asks_0 ⟨R.1.1.1, fun h2 e2 => ?_⟩
  have F2 : FrZ m h h2 := by rw [e2]; exact FrZ.rf.fld
  have hN2 := R.1.2.2.1
  have loop : ∀ k p : Nat, p + k = vN r → ∀ hc, FrZ m h hc → Ev w (am_Z w) mX10_asks (d + 6 + 1) 12 [(0, .ref m), (1, .int minute), (2, .int (askL r minute p).1), (3, .int (askL r minute p).2), (4, .int (nI p))] [] hc Q := by
    intro k
    induction k with
    | zero =>
      intro p hp hc Fc
      have hp : p = vN r := by omega
      subst hp
      have Rc := R.fr Fc
      refine bX10_asks_12 ⟨Rc.1.1.1, Rc.1.1.in 1 rfl (k := 7) (by decide) (by decide) (by decide), fun _ => q hc Fc, fun c => absurd ?_ c⟩
      rw [cl7, Rc.1.2.1]
      exact Int32.le_refl _
    | succ k ih =>
      intro p hp hc Fc
      have Rc := R.fr Fc
      have ih := ih (p + 1) (by omega)
      rw [askL] at ih
      refine bX10_asks_12 ⟨Rc.1.1.1, Rc.1.1.in 1 rfl (k := 7) (by decide) (by decide) (by decide), fun c => absurd c ?_, fun _ => ?_⟩
      · rw [cl7, Rc.1.2.1, nI_leI (by omega) (by omega)]
        omega
      · rw [(nI_succ p).symm]
        refine c_canTurn Rc (fun h3 F3 hD => ⟨_, rfl, fun c => ?_, fun c => ⟨(F3.md Rc.1.1).1, ?_⟩⟩)
        · have e : mayT r (nI p) minute = false := by
            cases hh : mayT r (nI p) minute with
            | false => rfl
            | true => rw [hh] at c; exact absurd c (by decide)
          rw [e] at ih
          exact ih h3 (Fc.tr F3)
        · have e : mayT r (nI p) minute = true := by
            cases hh : mayT r (nI p) minute with
            | true => rfl
            | false => rw [hh] at c; exact absurd rfl c
          rw [e, if_pos rfl] at ih
          obtain ⟨k', D⟩ := hD e
          obtain ⟨t1, t2⟩ := mayT_p e
          obtain ⟨a, ha, rfl⟩ := nI_of (Int32.not_lt.mpr t2.1)
          have c2 := t2.2
          rw [show (1440 : Int32) = nI 1440 by decide, nI_ltI ha (by decide)] at c2
          rw [nI_clamp ha] at ih
          have F3' := Fc.tr F3
          refine c_turns (d := d + 1) ((R.fr F3').up 1) D (by omega) c2 (fun h7 F7 => ⟨_, rfl, fun c4 => ?_, fun c4 => ⟨fun c5 => ?_, fun c5 => ?_⟩⟩)
          · rw [if_pos (Or.inl c4)] at ih
            exact ih h7 (F3'.tr F7)
          · rw [if_pos (Or.inr c5)] at ih
            exact ih h7 (F3'.tr F7)
          · rw [if_neg (fun o => o.elim c4 c5)] at ih
            exact ih h7 (F3'.tr F7)
  exact loop (vN r) 0 (by omega) h2 F2
end RTURN
