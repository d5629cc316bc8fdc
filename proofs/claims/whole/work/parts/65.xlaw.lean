/-! The class's laws, written with the signs behind their parts. -/
def jnd (s a b : Int32) : Int32 := if s = 42 then a * b else if s = 43 then a + b else if s = 45 then a - b else if s = 60 then (if b ≤ a then 0 else 1) else if s = 61 then (if a = b then 1 else 0) else if s = 88 then (if a = 0 then 0 else if b = 0 then 0 else 1) else (if a = 0 then (if b = 0 then 0 else 1) else 1)
def stepR (V : Nat → Int32) (c : Int32) (st : List Int32) : Option (List Int32) :=
  if 32 ≤ st.length then none else if ¬ c < 0 then some (c :: st) else if ¬ (-c - 75) < 0 ∧ ¬ 6 ≤ (-c - 75) then some (V ((-c - 75).toNatClampNeg + 1) :: st) else if c = -87 then (match st with
    | x :: r => some ((if x = 0 then 1 else 0) :: r)
    | [] => none) else (match st with
    | b :: a :: r => some (jnd (-c) a b :: r)
    | _ => none)
def runR (V cs : Nat → Int32) : Nat → Nat → List Int32 → Option (List Int32)
  | 0, _, st => some st
  | k + 1, p, st => match stepR V (cs p) st with
    | none => none
    | some st' => runR V cs k (p + 1) st'
def RpnOK (cs : Nat → Int32) (a b : Nat) (lf : (Nat → Int32) → Int32) : Prop := ∀ V, runR V cs (b - a) a [] = some [lf V]
/-- a row holds a stack, its top first -/
def Stk (f : Nat → Int32) : List Int32 → Prop
  | [] => True
  | x :: r => f r.length = x ∧ Stk f r
theorem Stk.cg {f f' : Nat → Int32} : ∀ {st : List Int32}, Stk f st → (∀ k, k < st.length → f' k = f k) → Stk f' st := by
  intro st
  induction st with
  | nil => intro _ _; exact trivial
  | cons x r ih => intro h e; exact ⟨by rw [e r.length (by simp)]; exact h.1, ih h.2 (fun k hk => e k (by rw [List.length_cons]; omega))⟩
theorem Stk.push {f : Nat → Int32} {st : List Int32} (h : Stk f st) (x : Int32) : Stk (va_up f st.length x) (x :: st) :=
  ⟨va_up_self _ _ _, h.cg (fun k hk => va_up_ne _ _ (by omega))⟩
/-- the law u of the river at ρ -/
def LawX (ρ : Nat) (h : am_H) (u : Int32) (lf : (Nat → Int32) → Int32) : Prop := hN h (ρ + 10) = 5 ∧ hR h ρ 5 ≠ 0 ∧ hK h (hR h ρ 5) = 12 ∧ hN h (hR h ρ 5) ≤ 1000 ∧ (u = -1 ∨ ∃ i a b, u = nI i ∧ i < 4 ∧ hI h (ρ + 10) i = nI a ∧ hI h (ρ + 10) (i + 1) = nI b ∧ a ≤ b ∧ b ≤ hN h (hR h ρ 5) ∧ RpnOK (hI h (hR h ρ 5)) a b lf)
theorem LawX.fr {ρ : Nat} {h h1 : am_H} {u : Int32} {lf : (Nat → Int32) → Int32} {Z : Nat → Prop} (A : LawX ρ h u lf) (F : FrA Z h h1) (h1' : ¬ Z (ρ + 10)) (h2 : ¬ Z (hR h ρ 5)) : LawX ρ h1 u lf := by
  obtain ⟨a1, a2, a3, a4, a5⟩ := A
  unfold LawX
  rw [F.R, F.N, F.N, F.K, F.I h1', F.I h2]
  exact ⟨a1, a2, a3, a4, a5⟩
section XLAW
variable {w : am_W} {d : Nat} {h : am_H} {Q : Option Value → am_H → Prop} {ρ a2 a3 : Nat} {u : Int32} {lf : (Nat → Int32) → Int32} {V : Nat → Int32}
theorem c_joined {s a b : Int32} (q : Q (some (.int (jnd s a b))) h) : EvM w mX6_joined d [.int s, .int a, .int b] h Q := by
  unfold jnd at q
  refine bX6_joined_0 ⟨fun c => ?_, fun c => ⟨fun c2 => ?_, fun c2 => ⟨fun c3 => ?_, fun c3 => ⟨fun c4 => ⟨fun c5 => ?_, fun c5 => ?_⟩, fun c4 => ⟨fun c5 => ⟨fun c6 => ?_, fun c6 => ?_⟩, fun c5 => ⟨fun c6 => ⟨fun c7 => ?_, fun c7 => ⟨fun c8 => ?_, fun c8 => ?_⟩⟩, fun c6 => ⟨fun c7 => ⟨fun c8 => ?_, fun c8 => ?_⟩, fun c7 => ?_⟩⟩⟩⟩⟩⟩⟩
  · rw [if_pos c] at q; exact q
  · rw [if_neg c, if_pos c2] at q; exact q
  · rw [if_neg c, if_neg c2, if_pos c3] at q; exact q
  · rw [if_neg c, if_neg c2, if_neg c3, if_pos c4, if_pos c5] at q; exact q
  · rw [if_neg c, if_neg c2, if_neg c3, if_pos c4, if_neg c5] at q; exact q
  · rw [if_neg c, if_neg c2, if_neg c3, if_neg c4, if_pos c5, if_pos c6] at q; exact q
  · rw [if_neg c, if_neg c2, if_neg c3, if_neg c4, if_pos c5, if_neg c6] at q; exact q
  · rw [if_neg c, if_neg c2, if_neg c3, if_neg c4, if_neg c5, if_pos c6, if_pos c7] at q; exact q
  · rw [if_neg c, if_neg c2, if_neg c3, if_neg c4, if_neg c5, if_pos c6, if_neg c7, if_pos c8] at q; exact q
  · rw [if_neg c, if_neg c2, if_neg c3, if_neg c4, if_neg c5, if_pos c6, if_neg c7, if_neg c8] at q; exact q
  · rw [if_neg c, if_neg c2, if_neg c3, if_neg c4, if_neg c5, if_neg c6, if_pos c7, if_pos c8] at q; exact q
  · rw [if_neg c, if_neg c2, if_neg c3, if_neg c4, if_neg c5, if_neg c6, if_pos c7, if_neg c8] at q; exact q
  · rw [if_neg c, if_neg c2, if_neg c3, if_neg c4, if_neg c5, if_neg c6, if_neg c7] at q; exact q
set_option maxHeartbeats 4000000 in
/-- the codes are worked -/
theorem c_law70 {b : Nat} {v : Int32} (R : am_L 6 ρ h) (hc0 : hR h ρ 5 ≠ 0) (hck : hK h (hR h ρ 5) = 12) (hcn : b ≤ hN h (hR h ρ 5)) (hcn2 : hN h (hR h ρ 5) ≤ 1000) (k2 : hK h a2 = 12) (n2 : hN h a2 = 6) (k3 : hK h a3 = 12) (n3 : hN h a3 = 32) (o2 : a2 ≠ a3) (oc : hR h ρ 5 ≠ a3) (hV : ∀ i, i < 6 → V (i + 1) = hI h a2 i)
    (q : ∀ h', FrA (fun a => a = a3) h h' → Q (some (.int v)) h') : ∀ k p st hc, p + k = b → FrA (fun a => a = a3) h hc → Stk (hI hc a3) st → runR V (hI h (hR h ρ 5)) k p st = some [v] →
      Ev w (am_Z w) mX6_lawValue (d + 1) 70 [(0, .ref ρ), (2, .ref a2), (3, .ref a3), (4, .int (nI st.length)), (5, .int (nI b)), (6, .int (nI p))] [] hc Q := by
  intro k
  induction k with
  | zero =>
    intro p st hc hp F S hr
    have hp : p = b := by omega
    subst hp
    cases hr
    refine bX6_lawValue_70 ⟨fun _ => c_get (by rw [F.K]; exact k3) (by rw [F.N]; omega) ⟨_, rfl, ?_⟩, fun c => absurd (Int32.le_refl _) c⟩
    rw [F.N, n3, ← nI_0, gv_nI (by decide) (by decide), show hI hc a3 0 = v from S.1]
    exact q hc F
  | succ k ih =>
    intro p st hc hp F S hr
    rw [runR] at hr
    have hpc : (nI p).toNatClampNeg = p := nI_clamp (by omega)
    have hst : st.length < 32 := by
      apply Classical.byContradiction
      intro hn
      rw [stepR.eq_def, if_pos (by omega)] at hr
      cases hr
    have hsc : (nI st.length).toNatClampNeg = st.length := nI_clamp (by omega)
    have ic : hI hc (hR hc ρ 5) (nI p).toNatClampNeg = hI h (hR h ρ 5) p := by rw [hpc, F.R, F.I oc]
    rw [stepR.eq_def, if_neg (by omega)] at hr
    generalize hI h (hR h ρ 5) p = cc at hr ic
    refine bX6_lawValue_70 ⟨fun c => absurd c (by rw [nI_leI (by omega) (by omega)]; omega), fun _ => ⟨by rw [F.K]; exact k3, fun c => absurd c (by rw [F.N, n3, nI_leI (by omega) (by omega)]; omega), fun _ => ⟨F.L R, by rw [F.R]; exact hc0, by rw [F.R, F.K]; exact hck, by rw [F.R, F.N]; exact vp_in_nI (by omega) (by omega), ?_⟩⟩⟩
    rw [ic]
    -- behind the numbers and the facts
    have behind : cc < 0 → ¬ (¬ (-cc - 75) < 0 ∧ ¬ 6 ≤ (-cc - 75)) → Ev w (am_Z w) mX6_lawValue (d + 1) 144 [(0, .ref ρ), (2, .ref a2), (3, .ref a3), (4, .int (nI st.length)), (5, .int (nI b)), (6, .int (nI p)), (7, .int cc)] [] hc Q := by
      intro c1 c2
      rw [if_neg (fun hh => hh c1), if_neg c2] at hr
      by_cases c3 : cc = -87
      · rw [if_pos c3] at hr
        cases st with
        | nil => cases hr
        | cons x r =>
          simp only at hr
          have hrl : (nI (x :: r).length) - 1 = nI r.length := nI_pred _
          have hrc : (nI r.length).toNatClampNeg = r.length := nI_clamp (by rw [List.length_cons] at hst; omega)
          have go : ∀ y : Int32, y = (if x = 0 then 1 else 0) → Ev w (am_Z w) mX6_lawValue (d + 1) 70 [(0, .ref ρ), (2, .ref a2), (3, .ref a3), (4, .int (nI (x :: r).length)), (5, .int (nI b)), (6, .int (nI p + 1))] [] (sI hc a3 r.length y) Q := by
            intro y hy
            rw [nI_1]
            refine ih (p + 1) (y :: r) _ (by omega) (F.fld rfl) ?_ (by rw [hy]; exact hr)
            rw [sI_r, hI_rs]
            exact S.2.push y
          refine bX6_lawValue_144 ⟨fun _ => ⟨fun c4 => ?_, fun _ => ⟨by rw [F.K]; exact k3, by rw [hrl, F.N, n3]; exact vp_in_nI (by rw [List.length_cons] at hst; omega) (by decide), fun c5 => ⟨by rw [hrl, F.N, n3]; exact vp_in_nI (by rw [List.length_cons] at hst; omega) (by decide), fun h4 e4 => ?_⟩, fun c5 => ⟨by rw [hrl, F.N, n3]; exact vp_in_nI (by rw [List.length_cons] at hst; omega) (by decide), fun h4 e4 => ?_⟩⟩⟩, fun c4 => absurd c3 c4⟩
          · have : nI (r.length + 1) < nI 1 := c4
            rw [List.length_cons] at hst
            rw [nI_ltI (by omega) (by decide)] at this
            omega
          · rw [hrl, hrc] at c5 e4
            rw [show hI hc a3 r.length = x from S.1] at c5
            rw [e4]
            exact go 1 (by rw [if_pos c5])
          · rw [hrl, hrc] at c5 e4
            rw [show hI hc a3 r.length = x from S.1] at c5
            rw [e4]
            exact go 0 (by rw [if_neg c5])
      · rw [if_neg c3] at hr
        match st, hr, S, hst, hsc with
        | [], hr, _, _, _ => cases hr
        | [_], hr, _, _, _ => cases hr
        | y :: x :: r, hr, S, hst, hsc =>
          simp only at hr
          rw [List.length_cons, List.length_cons] at hst
          have l1 : nI (y :: x :: r).length + (-1) = nI (r.length + 1) := pk_m1 _
          have l2 : nI (r.length + 1) - 1 = nI r.length := nI_pred _
          have c1' : (nI r.length).toNatClampNeg = r.length := nI_clamp (by omega)
          have c2' : (nI (r.length + 1)).toNatClampNeg = r.length + 1 := nI_clamp (by omega)
          refine bX6_lawValue_144 ⟨fun c4 => absurd c4 c3, fun _ => bX6_lawValue_180 ⟨fun c4 => ?_, fun _ => ⟨by rw [F.K]; exact k3, by rw [l1, l2, F.N, n3]; exact vp_in_nI (by omega) (by decide), by rw [l1, F.N, n3]; exact vp_in_nI (by omega) (by decide), c_joined ⟨_, rfl, by rw [F.K]; exact k3, by rw [l1, l2, F.N, n3]; exact vp_in_nI (by omega) (by decide), fun h9 e9 => ?_⟩⟩⟩⟩
          · have : nI (r.length + 1 + 1) < nI 2 := c4
            rw [nI_ltI (by omega) (by decide)] at this
            omega
          · rw [l1, l2, c1', c2'] at e9
            rw [show hI hc a3 r.length = x from S.2.1, show hI hc a3 (r.length + 1) = y from S.1] at e9
            rw [e9, l1, nI_1]
            refine ih (p + 1) (jnd (-cc) x y :: r) _ (by omega) (F.fld rfl) ?_ hr
            rw [sI_r, hI_rs]
            exact S.2.2.push _
    refine ⟨fun c1 => ⟨fun c2 => behind c1 (fun hh => hh.1 c2), fun c2 => ⟨by rw [F.K]; exact k2, fun c3 => ?_, fun c3 => ?_⟩⟩, fun c1 => ⟨by rw [F.N, n3]; exact vp_in_nI hst (by decide), fun h17 e17 => ?_⟩⟩
    · rw [F.N, n2] at c3
      exact behind c1 (fun hh => hh.2 c3)
    · rw [F.N, n2] at c3
      have c3 : ¬ (6 : Int32) ≤ -cc - 75 := c3
      rw [if_neg (fun hh => hh c1), if_pos ⟨c2, c3⟩] at hr
      obtain ⟨f, hf, ef⟩ := nI_of c2
      rw [ef] at c3 hr ⊢
      have f6 : f < 6 := by
        have : ¬ nI 6 ≤ nI f := c3
        rw [nI_leI (by decide) hf] at this
        omega
      have hfc : (nI f).toNatClampNeg = f := nI_clamp hf
      refine ⟨by rw [F.N, n2]; exact vp_in_nI f6 (by decide), by rw [F.N, n3]; exact vp_in_nI hst (by decide), fun h15 e15 => ?_⟩
      rw [hsc, hfc, F.I o2, ← hV f f6] at e15
      rw [hfc] at hr
      rw [e15, nI_1, nI_1]
      refine ih (p + 1) (V (f + 1) :: st) _ (by omega) (F.fld rfl) ?_ hr
      rw [sI_r, hI_rs]
      exact S.push _
    · rw [if_pos c1] at hr
      rw [hsc] at e17
      rw [e17, nI_1, nI_1]
      refine ih (p + 1) (cc :: st) _ (by omega) (F.fld rfl) ?_ hr
      rw [sI_r, hI_rs]
      exact S.push _
theorem c_lawValueX (R : am_L 6 ρ h) (A : LawX ρ h u lf) (k2 : hK h a2 = 12) (n2 : hN h a2 = 6) (k3 : hK h a3 = 12) (n3 : hN h a3 = 32) (o2 : a2 ≠ a3) (o10 : ρ + 10 ≠ a3) (oc : hR h ρ 5 ≠ a3) (hV : ∀ i, i < 6 → V (i + 1) = hI h a2 i)
    (q : ∀ h' r, FrA (fun a => a = a3) h h' → decide (r = 0) = !lwV u lf V → Q (some (.int r)) h') : EvM w mX6_lawValue (d + 1) [.ref ρ, .int u, .ref a2, .ref a3] h Q := by
  obtain ⟨l1, l2, l3, l4, l5⟩ := A
  rcases l5 with e | ⟨i, a, b, e1, e2, e3, e4, e5, e6, e7⟩
  · subst e
    have g0 : gv (hN h a2) (hI h a2) 0 = V 1 := by rw [n2, ← nI_0, gv_nI (by decide) (by decide), ← hV 0 (by decide)]
    have g1 : gv (hN h a2) (hI h a2) 1 = V 2 := by rw [n2, show (1 : Int32) = nI 1 by decide, gv_nI (by decide) (by decide), ← hV 1 (by decide)]
    have q := q h
    unfold lwV at q
    rw [if_neg (by decide)] at q
    refine bX6_lawValue_0 ⟨fun _ => c_get k2 (by omega) ⟨_, rfl, c_get k2 (by omega) ⟨_, rfl, ?_⟩⟩, fun c => absurd rfl c⟩
    rw [g0, g1]
    refine ⟨fun c => c_get k2 (by omega) ⟨_, rfl, ?_⟩, fun c => q 0 FrA.rf (by simp [c])⟩
    rw [g0]
    refine ⟨fun c2 => q 0 FrA.rf (by simp [c2]), fun c2 => q 1 FrA.rf ?_⟩
    rw [c] at c2 ⊢
    simp [c2]
  · subst e1
    have hpos : (0 : Int32) ≤ nI i := nI_pos' (by omega)
    have q' : ∀ h', FrA (fun a => a = a3) h h' → Q (some (.int (lf V))) h' := fun h' F' => q h' _ F' (by unfold lwV; rw [if_pos hpos]; simp)
    refine bX6_lawValue_0 ⟨fun c => ?_, fun _ => ⟨R, c_get (R.s 4 rfl) (by omega) ⟨_, rfl, R, l2, l3, c_get (R.s 4 rfl) (by omega) ⟨_, rfl, ?_⟩⟩⟩⟩
    · rw [c] at hpos
      exact absurd hpos (by decide)
    · rw [l1, nI_1, gv_nI (by omega) (by omega), gv_nI (by omega) (by omega), e3, e4]
      have m1 : (if nI (hN h (hR h ρ 5)) < nI b then nI (hN h (hR h ρ 5)) else nI b) = nI b := if_neg (by rw [nI_ltI (by omega) (by omega)]; omega)
      have m2 : (if 0 < nI a then nI a else 0) = nI a := by
        cases a with
        | zero => rfl
        | succ a => exact if_pos (by rw [← nI_0, nI_ltI (by decide) (by omega)]; omega)
      rw [m1, m2]
      exact c_law70 R l2 l3 e6 l4 k2 n2 k3 n3 o2 oc hV q' (b - a) a [] h (by omega) FrA.rf trivial (e7 V)
end XLAW
