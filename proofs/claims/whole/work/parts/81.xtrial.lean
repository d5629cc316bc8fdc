/-! The class's beginTrial, send. -/
section XTRIAL
variable {w : am_W} {d : Nat} {h h1 : am_H} {Q : Option Value → am_H → Prop} {x y : Nat} {A : rA} {H : rH}
theorem VH.self {H : rH} (V : VH H) : VH (useH H H.2.1) := V
/-- a trial day is begun, by a law -/
theorem c_beginTrial {u : Int32} (R : RepX x y h A) (V' : VH (useH A.2.2.1 u)) (q : ∀ h' l, FrG (x + 44) h h' → RepX x y h' A → DC (x + 44) 300 16 (tN A.2.2.1.1) (hR h (x + 20) 1) (hR h (x + 20) 1 + 1) (hR h (x + 20) 1 + 3) (canP (rvOf (useH A.2.2.1 u)) (-1)) l (tRoom A.2.2.1.1) (nI (tTrip A.2.2.1.1)) (nI (tBoats A.2.2.1.1)) (vLf (rvOf (useH A.2.2.1 u))) h' → YS (x + 44) (tN A.2.2.1.1) (canP (rvOf (useH A.2.2.1 u)) (-1)) l (nI (tBoats A.2.2.1.1)) h' (canB (nI (tBoats A.2.2.1.1))) 0 0 → hI h' (x + 44) 16 = -1 → hI h' (x + 44) 17 = nI 1440 → Q none h') : EvM w mX9_beginTrial (d + 2) [.ref x, .int u] h Q := by
  obtain ⟨V, s1, G, Rv⟩ := R.st
  have X := R.2.1
  have hy := R.1
  obtain ⟨l, N⟩ := RvX.need1 (H := useH A.2.2.1 u) (D := x + 44) V' s1 G Rv hy (by omega)
  obtain ⟨_, ⟨l2, C2⟩, _⟩ := id Rv
  refine bX9_beginTrial_0 ⟨X.1, X.2.2.2.2.2.1, s1, Rv.1, C2.1, ?_⟩
  exact c_begin (d := d) (L := 300) (P := canP (rvOf (useH A.2.2.1 u)) (-1)) X.2.2.2.2.2.2.2.2.2.2.1 (by have := V.1.1; show tN A.2.2.1.1 ≤ 300; omega) N (fun h6 F6 D6 Y6 e16 e17 => ⟨rfl, q h6 l F6 (R.tri F6) D6 Y6 e16 e17⟩)
end XTRIAL
/-! Guests. -/
theorem acV_guests {sd at_ wt ct g : Nat → Int32} {N : Nat} {mi b : Int32} {V : Nat → Int32} {A0 : Nat → Int32} (hb : b = 0 ∨ b = 1) (h5 : 0 ≤ A0 5)
    (e0 : (acV (upto N sd (fun _ => b)) (upto N at_ (fun _ => mi)) (upto N wt (fun _ => 70)) (upto N ct (fun _ => 2)) (upto N g (fun _ => -1)) mi V N).1 = A0) : ∀ k,
    (acV (upto N sd (fun _ => b)) (upto N at_ (fun _ => mi)) (upto N wt (fun _ => 70)) (upto N ct (fun _ => 2)) (upto N g (fun _ => -1)) mi V (N + k)).1 1 = A0 1 + (if b = 0 then nI k else 0) * 2 ∧
    (acV (upto N sd (fun _ => b)) (upto N at_ (fun _ => mi)) (upto N wt (fun _ => 70)) (upto N ct (fun _ => 2)) (upto N g (fun _ => -1)) mi V (N + k)).1 2 = A0 2 + (if b = 0 then 0 else nI k) * 2 ∧
    (acV (upto N sd (fun _ => b)) (upto N at_ (fun _ => mi)) (upto N wt (fun _ => 70)) (upto N ct (fun _ => 2)) (upto N g (fun _ => -1)) mi V (N + k)).1 3 = A0 3 + (if b = 0 then nI k else 0) * 70 ∧
    (acV (upto N sd (fun _ => b)) (upto N at_ (fun _ => mi)) (upto N wt (fun _ => 70)) (upto N ct (fun _ => 2)) (upto N g (fun _ => -1)) mi V (N + k)).1 4 = A0 4 + (if b = 0 then 0 else nI k) * 70 ∧
    (acV (upto N sd (fun _ => b)) (upto N at_ (fun _ => mi)) (upto N wt (fun _ => 70)) (upto N ct (fun _ => 2)) (upto N g (fun _ => -1)) mi V (N + k)).1 5 = A0 5 ∧
    (acV (upto N sd (fun _ => b)) (upto N at_ (fun _ => mi)) (upto N wt (fun _ => 70)) (upto N ct (fun _ => 2)) (upto N g (fun _ => -1)) mi V (N + k)).2 = ((acV (upto N sd (fun _ => b)) (upto N at_ (fun _ => mi)) (upto N wt (fun _ => 70)) (upto N ct (fun _ => 2)) (upto N g (fun _ => -1)) mi V N).2 || !decide (k = 0)) := by
  intro k
  induction k with
  | zero =>
    rw [Nat.add_zero, e0]
    simp [nI_0]
  | succ k ih =>
    obtain ⟨i1, i2, i3, i4, i5, i6⟩ := ih
    have u : ∀ {α : Type} (f : Nat → α) (v : α), upto N f (fun _ => v) (N + k) = v := fun f v => upto_ge (by omega)
    rw [show N + (k + 1) = N + k + 1 by omega, acV, u at_ mi, u g (-1)]
    rw [if_pos (by simp)]
    generalize (acV (upto N sd (fun _ => b)) (upto N at_ (fun _ => mi)) (upto N wt (fun _ => 70)) (upto N ct (fun _ => 2)) (upto N g (fun _ => -1)) mi V (N + k)).1 = B at i1 i2 i3 i4 i5
    unfold stV
    rw [u sd b, u at_ mi, u wt 70, u ct 2, Int32.sub_self]
    have nx : nI (k + 1) = nI k + 1 := nI_succ k
    have m2 : (nI k + 1) * 2 = nI k * 2 + 2 := by rw [Int32.add_mul]; rfl
    have m70 : (nI k + 1) * 70 = nI k * 70 + 70 := by rw [Int32.add_mul]; rfl
    have g5 : ¬ B 5 < 0 := by rw [i5]; exact Int32.not_lt.mpr h5
    rcases hb with e | e <;> subst e
    · have k1 : (1 + (0 : Int32)).toNatClampNeg = 1 := by decide
      have k3 : (3 + (0 : Int32)).toNatClampNeg = 3 := by decide
      simp only [k1, k3, va_ui]
      simp only [if_pos, reduceIte] at i1 i2 i3 i4 ⊢
      refine ⟨?_, ?_, ?_, ?_, ?_, ?_⟩
      · simp [i1, nx, m2, Int32.add_assoc]
      · simp [i2]
      · simp [i3, nx, m70, Int32.add_assoc]
      · simp [i4]
      · have g6 : ¬ A0 5 < 0 := Int32.not_lt.mpr h5
        simp [g6, i5]
      · simp
    · have k1 : (1 + (1 : Int32)).toNatClampNeg = 2 := by decide
      have k3 : (3 + (1 : Int32)).toNatClampNeg = 4 := by decide
      have n1 : ¬ (1 : Int32) = 0 := by decide
      simp only [k1, k3, va_ui]
      simp only [if_neg n1] at i1 i2 i3 i4 ⊢
      refine ⟨?_, ?_, ?_, ?_, ?_, ?_⟩
      · simp [i1]
      · simp [i2, nx, m2, Int32.add_assoc]
      · simp [i3]
      · simp [i4, nx, m70, Int32.add_assoc]
      · have g6 : ¬ A0 5 < 0 := Int32.not_lt.mpr h5
        simp [g6, i5]
      · simp
theorem snd_list {r : rV} {a g : Nat} {b : Int32} {l : List Nat} (hb : b = 0 ∨ b = 1) (ha : a < 1440) (O : OrdL (vAt r) (vN r) l) (K : PpOK (canP r (-1)) (vN r)) (hC : lfC (vLf r)) :
    sndR r a b g = wrL (canP r (-1)) (dayK r (-1) a) (vLf r) (nI a) (l.filter (wtp (canP r (-1)).2.2.1 (vAt r) (dayK r (-1) a).1 0 (nI a))) (l.filter (wtp (canP r (-1)).2.2.1 (vAt r) (dayK r (-1) a).1 1 (nI a))) (if b = 0 then g else 0) (if b = 0 then 0 else g) := by
  unfold sndR
  generalize dayK r (-1) a = S
  have hz : ∀ i, 1 ≤ i → i ≤ 5 → z16 7 (fun _ => (0 : Int32)) i = 0 := by
    intro i h1 h2
    simp only [z16]
    split <;> rfl
  have hat : ∀ p, p < vN r → ∃ k, k < 2 ^ 30 ∧ (canP r (-1)).2.2.2.1 p = nI k := fun p hp => by obtain ⟨k, h1, h2⟩ := K.2 p hp; exact ⟨k, by omega, h2⟩
  obtain ⟨f1, f2⟩ := fcV_list (P := canP r (-1)) (g := S.1) (V := fun _ => 0) (a := a) O K.1 (by omega) hat
  have eA : acV (upto (vN r) (vSd r) (fun _ => b)) (upto (vN r) (vAt r) (fun _ => nI a)) (upto (vN r) (vWt r) (fun _ => 70)) (upto (vN r) (fun p => cof (vKd r p)) (fun _ => 2)) (upto (vN r) S.1 (fun _ => -1)) (nI a) (z16 7 (fun _ => 0)) (vN r) = acV (canP r (-1)).2.2.1 (vAt r) (vWt r) (fun p => cof (vKd r p)) S.1 (nI a) (z16 7 (fun _ => 0)) (vN r) :=
    acV_eq (n := vN r) (upto_eq (fun p _ => (sdf_m1 _ _ p).symm)) (upto_eq eqR.rf) (upto_eq eqR.rf) (upto_eq eqR.rf) (upto_eq eqR.rf) (vN r) (Nat.le_refl _)
  obtain ⟨_, _, _, _, ⟨_, a5⟩, _⟩ := acV_sums (sd := (canP r (-1)).2.2.1) (at_ := vAt r) (wt := vWt r) (ct := fun p => cof (vKd r p)) (g := S.1) (minute := nI a) hz (vN r) K.1
  have h5 : 0 ≤ (acV (canP r (-1)).2.2.1 (vAt r) (vWt r) (fun p => cof (vKd r p)) S.1 (nI a) (z16 7 (fun _ => 0)) (vN r)).1 5 := by
    rcases a5 with e | ⟨p, hp, hw, e⟩
    · rw [e]; exact Int32.le_refl _
    · rw [e]
      obtain ⟨k, h1, h2⟩ := K.2 p hp
      have h2 : vAt r p = nI k := h2
      simp only [wg, Bool.and_eq_true, Bool.not_eq_true', decide_eq_false_iff_not] at hw
      rw [h2, nI_ltI (by omega) (by omega)] at hw
      rw [h2, nI_sub (by omega)]
      exact nI_pos' (by omega)
  have G := acV_guests (N := vN r) (sd := vSd r) (at_ := vAt r) (wt := vWt r) (ct := fun p => cof (vKd r p)) (g := S.1) (mi := nI a) (V := z16 7 (fun _ => 0)) hb h5 (by rw [eA]) g
  rw [eA] at G
  obtain ⟨g1, g2, g3, g4, g5, g6⟩ := G
  have f1' : ∀ i, 1 ≤ i → i ≤ 5 → (acV (canP r (-1)).2.2.1 (vAt r) (vWt r) (fun p => cof (vKd r p)) S.1 (nI a) (z16 7 (fun _ => 0)) (vN r)).1 i = FV (vAt r) (vWt r) (fun p => cof (vKd r p)) (nI a) (l.filter (wtp (canP r (-1)).2.2.1 (vAt r) S.1 0 (nI a))) (l.filter (wtp (canP r (-1)).2.2.1 (vAt r) S.1 1 (nI a))) 0 0 i := by
    intro i h1 h2
    refine Eq.trans ?_ (f1 i h1 (by omega))
    show _ = va_up _ 6 (nI a) i
    rw [va_up_ne _ _ (by omega)]
    rfl
  have f2' : (acV (canP r (-1)).2.2.1 (vAt r) (vWt r) (fun p => cof (vKd r p)) S.1 (nI a) (z16 7 (fun _ => 0)) (vN r)).2 = !decide ((l.filter (wtp (canP r (-1)).2.2.1 (vAt r) S.1 0 (nI a))).length + (l.filter (wtp (canP r (-1)).2.2.1 (vAt r) S.1 1 (nI a))).length = 0) := f2
  rw [f1' 1 (by decide) (by decide)] at g1
  rw [f1' 2 (by decide) (by decide)] at g2
  rw [f1' 3 (by decide) (by decide)] at g3
  rw [f1' 4 (by decide) (by decide)] at g4
  rw [f1' 5 (by decide) (by decide)] at g5
  rw [f2'] at g6
  generalize l.filter (wtp (canP r (-1)).2.2.1 (vAt r) S.1 0 (nI a)) = X0 at g1 g2 g3 g4 g5 g6
  generalize l.filter (wtp (canP r (-1)).2.2.1 (vAt r) S.1 1 (nI a)) = X1 at g1 g2 g3 g4 g5 g6
  have al : al6 (fcV (gstP r b (nI a)) (gstS (vN r) S).1 (vN r + g) (nI a) (fun _ => 0)).1 (FV (vAt r) (vWt r) (fun p => cof (vKd r p)) (nI a) X0 X1 (nI (if b = 0 then g else 0)) (nI (if b = 0 then 0 else g))) := by
    have e0 : nI (if b = 0 then g else 0) = (if b = 0 then nI g else 0) := by split <;> rfl
    have e1 : nI (if b = 0 then 0 else g) = (if b = 0 then 0 else nI g) := by split <;> rfl
    intro i h1 h2
    show va_up _ 6 (nI a) i = _
    rw [e0, e1]
    have : i = 1 ∨ i = 2 ∨ i = 3 ∨ i = 4 ∨ i = 5 ∨ i = 6 := by omega
    rcases this with e | e | e | e | e | e <;> subst e
    · rw [va_up_ne _ _ (by decide)]
      refine Eq.trans g1 ?_
      show sm _ X0 + 0 * 2 + _ = sm _ X0 + _
      rw [Int32.zero_mul, Int32.add_zero]
    · rw [va_up_ne _ _ (by decide)]
      refine Eq.trans g2 ?_
      show sm _ X1 + 0 * 2 + _ = sm _ X1 + _
      rw [Int32.zero_mul, Int32.add_zero]
    · rw [va_up_ne _ _ (by decide)]
      refine Eq.trans g3 ?_
      show sm _ X0 + 0 * 70 + _ = sm _ X0 + _
      rw [Int32.zero_mul, Int32.add_zero]
    · rw [va_up_ne _ _ (by decide)]
      refine Eq.trans g4 ?_
      show sm _ X1 + 0 * 70 + _ = sm _ X1 + _
      rw [Int32.zero_mul, Int32.add_zero]
    · rw [va_up_ne _ _ (by decide)]
      refine Eq.trans g5 ?_
      rw [FV5, FV5]
    · rw [va_up_self, FV6]
  have an : (fcV (gstP r b (nI a)) (gstS (vN r) S).1 (vN r + g) (nI a) (fun _ => 0)).2 = !decide (X0.length + (if b = 0 then g else 0) + (X1.length + (if b = 0 then 0 else g)) = 0) := by
    refine Eq.trans g6 ?_
    by_cases hg : g = 0
    · subst hg
      simp
    · have : ¬ X0.length + (if b = 0 then g else 0) + (X1.length + (if b = 0 then 0 else g)) = 0 := by split <;> omega
      rw [decide_eq_false hg, decide_eq_false this, Bool.not_false, Bool.or_true]
  unfold wr wrV wrL
  rw [lwV_al hC al, an]
  rfl
