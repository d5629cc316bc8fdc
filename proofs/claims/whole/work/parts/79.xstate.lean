/-! The class's forget, use, tell, clear, mark. -/
theorem le_p1 {v : Int32} {L : Nat} (hL : L < 2 ^ 31) : v ≤ nI L - 1 ↔ v < nI L := by
  cases L with
  | zero =>
    rw [show nI 0 - 1 = -1 by decide, nI_0, Int32.le_iff_toInt_le, Int32.lt_iff_toInt_lt, show (-1 : Int32).toInt = -1 by decide, show (0 : Int32).toInt = 0 by decide]
    omega
  | succ L =>
    rw [nI_pred, Int32.le_iff_toInt_le, Int32.lt_iff_toInt_lt, nI_toInt (by omega), nI_toInt hL]
    omega
/-- a state takes another's -/
def FrS (σ : Nat) (h h' : am_H) : Prop := hK h' = hK h ∧ hN h' = hN h ∧ hJ h' = hJ h ∧ hZ h' = hZ h ∧ hS h' = hS h ∧ (∀ a, a ≠ σ → hR h' a = hR h a) ∧ (∀ k, k ≠ 1 → hR h' σ k = hR h σ k) ∧ ∀ a, a ≠ σ → a ≠ σ + 1 → hI h' a = hI h a
theorem FrS.same {σ : Nat} {h h' : am_H} (F : FrS σ h h') {a : Nat} (h1 : a ≠ σ) (h2 : a ≠ σ + 1) : same h h' a := ⟨by rw [F.1], by rw [F.2.1], F.2.2.2.2.2.2.2 a h1 h2, by rw [F.2.2.1], F.2.2.2.2.2.1 a h1⟩
theorem FrS.kn {x σ : Nat} {h h' : am_H} (F : FrS σ h h') (hs : σ = x + 20 ∨ σ = x + 23 ∨ σ = x + 25 ∨ σ = x + 27 ∨ σ = x + 29) : KN x h h' := by
  refine ⟨fun a _ _ => ⟨by rw [F.1], by rw [F.2.1]⟩, fun a k _ _ hk => ?_⟩
  by_cases e : a = σ
  · rw [e]
    exact F.2.2.2.2.2.2.1 k (by unfold Kp at hk; omega)
  · rw [F.2.2.2.2.2.1 a e]
theorem KN.tr {x : Nat} {h h1 h2 : am_H} (a : KN x h h1) (b : KN x h1 h2) : KN x h h2 := ⟨fun c p q => ⟨(b.1 c p q).1.trans (a.1 c p q).1, (b.1 c p q).2.trans (a.1 c p q).2⟩, fun c k p q r => (b.2 c k p q r).trans (a.2 c k p q r)⟩
section XSTATE
variable {w : am_W} {d : Nat} {h h1 : am_H} {Q : Option Value → am_H → Prop} {x y : Nat} {A : rA} {H : rH}
theorem c_forget (X : XL x h) (q : ∀ h', FrA (fun a => a = x ∨ a = x + 57 ∨ a = x + 62) h h' → hI h' x 8 = 0 → hI h' (x + 57) 6 = 0 → hI h' (x + 62) 1 = 0 → Q none h') : EvM w mX9_forget d [.ref x] h Q := by
  have X1 := X.1
  have X57 := X.2.2.2.2.2.2.2.2.2.2.2.1
  have X62 := X.2.2.2.2.2.2.2.2.2.2.2.2.2.1
  refine bX9_forget_0 ⟨X1, fun h2 e2 => ?_⟩
  have F2 : FrA (fun a => a = x ∨ a = x + 57 ∨ a = x + 62) h h2 := by rw [e2]; exact FrA.rf.fld (Or.inl rfl)
  refine ⟨F2.L X57, fun h4 e4 => ?_⟩
  have F4 : FrA (fun a => a = x ∨ a = x + 57 ∨ a = x + 62) h h4 := by rw [e4]; exact F2.fld (Or.inr (Or.inl rfl))
  refine ⟨F4.L X62, fun h6 e6 => ?_⟩
  have F6 : FrA (fun a => a = x ∨ a = x + 57 ∨ a = x + 62) h h6 := by rw [e6]; exact F4.fld (Or.inr (Or.inr rfl))
  refine q h6 F6 ?_ ?_ ?_
  · rw [e6, sI_r, hI_rn _ _ (by omega), e4, sI_r, hI_rn _ _ (by omega), e2, sI_r, hI_rs, va_up_self]
  · rw [e6, sI_r, hI_rn _ _ (by omega), e4, sI_r, hI_rs, va_up_self]
  · rw [e6, sI_r, hI_rs, va_up_self]
theorem QF.riv {ρ : Nat} {t : rT} (F : QF x h h1) (hy : x + 69 ≤ y) (G : Rgd x y ρ h) (R : RvX ρ h t) : Rgd x y ρ h1 ∧ RvX ρ h1 t := by
  have e1 : ∀ a, x + 1 ≤ a → a ≤ x + 12 → same h h1 a := fun a p q => F.1 a (by omega)
  have e2 : ∀ a, y ≤ a → a < hZ h → same h h1 a := F.e2 hy
  obtain ⟨q1, q2⟩ := G.same e1 e2
  exact ⟨Rgd_sm G e1 e2 (by rw [F.2.1]; exact Nat.le_refl _), R.sm q1 q2⟩
theorem CaX.none (h1 : hI h x 8 = 0) (h2 : hI h (x + 57) 6 = 0) (h3 : hI h (x + 62) 1 = 0) : CaX x y h H := ⟨Or.inl h1, Or.inl h2, Or.inl h3⟩
theorem c_useX {law : Int32} (R : RepX x y h A) (q : ∀ h', QF x h h' → RepX x y h' (oUse A law) → Q (some (.int (if canUse A.2.2.1 law then 1 else 0))) h') : EvM w mX9_use (d + 1) [.ref x, .int law] h Q := by
  obtain ⟨V, s1, G, Rv⟩ := R.st
  have S := R.2.2.2.1
  have X := R.2.1
  have hy := R.1
  have b8 : hI h (hR h (x + 20) 1) 13 = nI (tLaws A.2.2.1.1) := Rv.2.2.2.2.2.2.1.2.2.2.2.2.2.2
  have hL : tLaws A.2.2.1.1 ≤ 4 := V.1.2.2.2.2.2.2.1
  unfold oUse at q
  refine bX9_use_0 ⟨fun c => ?_, fun c => ⟨X.1, X.2.2.2.2.2.1, s1, Rv.1, fun c2 h5 e5 => ?_, fun c2 => ?_⟩⟩
  · have cn : canUse A.2.2.1 law = false := by
      unfold canUse
      exact decide_eq_false (fun hh => absurd (Int32.lt_of_lt_of_le c hh.1) Int32.lt_irrefl)
    rw [cn] at q
    exact q h QF.rf R
  · rw [b8] at c2
    have cn : canUse A.2.2.1 law = true := by
      unfold canUse
      exact decide_eq_true ⟨Int32.not_lt.mp c, (le_p1 (by omega)).mpr c2⟩
    rw [cn] at q
    have F5 : FrA (fun a => a = x + 20) h h5 := by rw [e5]; exact FrA.rf.fld rfl
    have i5 : hI h5 (x + 20) = va_up (hI h (x + 20)) 2 law := by rw [e5, sI_r, hI_rs]
    refine c_forget (X.kn F5.kn) (fun h6 F6 f1 f2 f3 => ⟨rfl, ?_⟩)
    have Q6 : QF x h h6 := (F5.q (fun a ha => by omega)).tr (F6.q (fun a ha => by omega))
    obtain ⟨G6, R6⟩ := Q6.riv hy G Rv
    have r6 : hR h6 (x + 20) 1 = hR h (x + 20) 1 := by rw [F6.R, F5.R]
    have i6 : hI h6 (x + 20) = va_up (hI h (x + 20)) 2 law := by rw [F6.I (by omega), i5]
    refine q h6 Q6 (R.mk' (H := (A.2.2.1.1, law, A.2.2.1.2.2)) (F5.kn.tr F6.kn) (fun a h1 h2 h3 h4 h5 h6 h7 h8 => (F5.same h5).tr (F6.same (by omega))) (Q6.e2 hy) (by rw [Q6.2.1]; exact Nat.le_refl _) ⟨V.usable cn, by rw [r6]; exact s1, by rw [r6]; exact G6, by rw [r6]; exact R6, by rw [i6, va_up_self], by rw [i6, va_up_ne _ _ (by decide)]; exact S.2.2.2.2.2.1, by rw [F6.I (by omega), F5.I (by omega)]; exact S.2.2.2.2.2.2⟩ (CaX.none f1 f2 f3))
  · rw [b8] at c2
    have cn : canUse A.2.2.1 law = false := by
      unfold canUse
      exact decide_eq_false (fun hh => c2 ((le_p1 (by omega)).mp hh.2))
    rw [cn] at q
    exact q h QF.rf R
/-- told ringings change nothing of the day -/
theorem ltA_cg {K : Nat} {H H' : rH} (e1 : H'.1 = H.1) (e2 : H'.2.1 = H.2.1) {sd : Nat} : ∀ k, ltA K H' sd k = ltA K H sd k := by
  have er : rvOf H' = rvOf H := by unfold rvOf; rw [e1, e2]
  intro k
  induction k with
  | zero => rfl
  | succ k ih =>
    rw [ltA, ltA, ih]
    unfold ltD ltS ltC
    rw [er, e1, e2]
theorem CaX.told {H' : rH} (C : CaX x y h H) (e1 : H'.1 = H.1) (e2 : H'.2.1 = H.2.1) : CaX x y h H' := by
  have er : rvOf H' = rvOf H := by unfold rvOf; rw [e1, e2]
  unfold CaX LtX at C ⊢
  rw [er]
  simp only [ltA_cg e1 e2]
  exact C
theorem c_clearX (R : RepX x y h A) (q : ∀ h', QF x h h' → RepX x y h' (oClear A) → Q (some (.int 1)) h') : EvM w mX9_clear d [.ref x] h Q := by
  obtain ⟨V, s1, G, Rv⟩ := R.st
  have S := R.2.2.2.1
  have X := R.2.1
  have hy := R.1
  refine bX9_clear_0 ⟨X.1, X.2.2.2.2.2.1, fun h3 e3 => ?_⟩
  have F3 : FrA (fun a => a = x + 20) h h3 := by rw [e3]; exact FrA.rf.fld rfl
  have i3 : hI h3 (x + 20) = va_up (hI h (x + 20)) 3 0 := by rw [e3, sI_r, hI_rs]
  have Q3 : QF x h h3 := F3.q (fun a ha => by omega)
  obtain ⟨G3, R3⟩ := Q3.riv hy G Rv
  have r3 : hR h3 (x + 20) 1 = hR h (x + 20) 1 := F3.R _ _
  have C3 : CaX x y h3 A.2.2.1 := by
    have C := R.2.2.2.2.2
    have i := fun a (ha : a ≠ x + 20) => F3.I (a := a) ha
    obtain ⟨c1, c2, c3⟩ := C
    obtain ⟨g1, g2⟩ := G.same (h1 := h3) (fun a p q => Q3.1 a (by omega)) (Q3.e2 hy)
    refine ⟨?_, ?_, ?_⟩
    · rw [i x (by omega), r3]
      rcases c1 with c1 | ⟨c1, c1'⟩
      · exact Or.inl c1
      · exact Or.inr ⟨c1, c1'.sm (fun a p q => F3.same (by omega)) g1 g2 (g1 _ (by omega) (by omega))⟩
    · unfold ChX
      rw [i (x + 57) (by omega), i (x + 58) (by omega), i (x + 59) (by omega), i (x + 60) (by omega)]
      exact c2
    · unfold LtX
      rw [i (x + 62) (by omega)]
      exact c3
  refine q h3 Q3 (R.mk' (H := (A.2.2.1.1, A.2.2.1.2.1, 0, A.2.2.1.2.2.2)) F3.kn (fun a _ _ _ _ h5 _ _ _ => F3.same h5) (Q3.e2 hy) (by rw [Q3.2.1]; exact Nat.le_refl _) ⟨⟨V.1, V.2.1, Nat.zero_le _, fun i hi => absurd hi (Nat.not_lt_zero _)⟩, by rw [r3]; exact s1, by rw [r3]; exact G3, by rw [r3]; exact R3, by rw [i3, va_up_ne _ _ (by decide)]; exact S.2.2.2.2.1, by rw [i3, va_up_self]; exact nI_0.symm, fun i hi => absurd hi (Nat.not_lt_zero _)⟩ (C3.told rfl rfl))
theorem CaX.st (C : CaX x y h H) (G : Rgd x y (hR h (x + 20) 1) h) (hy : x + 69 ≤ y) (F : FrA (fun a => a = x + 20 ∨ a = x + 21) h h1) : CaX x y h1 H := by
  have Q3 : QF x h h1 := F.q (fun a ha => by omega)
  have i := fun a (ha : a < x + 20 ∨ x + 21 < a) => F.I (a := a) (by omega)
  obtain ⟨c1, c2, c3⟩ := C
  obtain ⟨g1, g2⟩ := G.same (h1 := h1) (fun a p q => Q3.1 a (by omega)) (Q3.e2 hy)
  refine ⟨?_, ?_, ?_⟩
  · rw [i x (by omega), F.R]
    rcases c1 with c1 | ⟨c1, c1'⟩
    · exact Or.inl c1
    · exact Or.inr ⟨c1, c1'.sm (fun a p q => F.same (by omega)) g1 g2 (g1 _ (by omega) (by omega))⟩
  · unfold ChX
    rw [i (x + 57) (by omega), i (x + 58) (by omega), i (x + 59) (by omega), i (x + 60) (by omega)]
    exact c2
  · unfold LtX
    rw [i (x + 62) (by omega)]
    exact c3
set_option maxHeartbeats 4000000 in
theorem c_addTold {minute : Int32} (R : RepX x y h A) (q : ∀ h', QF x h h' → RepX x y h' (oTell A minute) → hI h' (x + 20) 3 = nI (oTell A minute).2.2.1.2.2.1 → Q (some (.int (if canTell A.2.2.1 minute then 1 else 0))) h') : EvM w mX7_addTold (d + 1) [.ref (x + 20), .int minute] h Q := by
  obtain ⟨V, s1, G, Rv⟩ := R.st
  have S := R.2.2.2.1
  have X := R.2.1
  have hy := R.1
  have hT := V.2.2.1
  have k21 : hK h (x + 21) = 12 := X.2.2.2.2.2.1.s 0 rfl
  have n21 : hN h (x + 21) = 30 := X.2.2.2.2.2.2.1
  have s3 := S.2.2.2.2.2.1
  have s6 := S.2.2.2.2.2.2
  unfold oTell at q
  -- behind the last one
  have t24 : ∀ lst : Int32, (∀ hm : 0 ≤ minute, ¬ minute ≤ lst ↔ (decide (A.2.2.1.2.2.1 = 0) || decide (A.2.2.1.2.2.2 (A.2.2.1.2.2.1 - 1) < minute)) = true) → Ev w (am_Z w) mX7_addTold (d + 1) 24 [(0, .ref (x + 20)), (1, .int minute)] [.int lst] h Q := by
    intro lst hl
    have no : canTell A.2.2.1 minute = false → Q (some (.int 0)) h := by
      intro cn
      rw [cn] at q
      exact q h QF.rf R s3
    refine bX7_addTold_24 (c_isMinute ⟨_, rfl, fun c => no ?_, fun c => ⟨fun c2 => no ?_, fun c2 => ⟨X.2.2.2.2.2.1, fun c3 => ?_, fun c3 => no ?_⟩⟩⟩)
    · unfold canTell
      rw [decide_eq_false (b01_z c)]
      rfl
    · unfold canTell
      have c := b01_n c
      cases hh : (decide (A.2.2.1.2.2.1 = 0) || decide (A.2.2.1.2.2.2 (A.2.2.1.2.2.1 - 1) < minute)) with
      | true => exact absurd c2 ((hl c.1).mpr hh)
      | false => rw [Bool.and_false, Bool.and_false]
    · have c := b01_n c
      rw [s3, show (30 : Int32) = nI 30 by decide, nI_ltI (by omega) (by decide)] at c3
      have ct : canTell A.2.2.1 minute = true := by
        unfold canTell
        rw [decide_eq_true c, (hl c.1).mp c2, decide_eq_false (show ¬ A.2.2.1.2.2.1 = 30 by omega)]
        rfl
      rw [ct] at q
      rw [s3]
      refine c_set k21 (by rw [show hN h (x + 20 + 1) = 30 from n21]; decide) ⟨rfl, FrA.L (Z := fun _ => True) (FrA.rf.row trivial) X.2.2.2.2.2.1, fun h8 e8 => ?_⟩
      rw [show hN h (x + 20 + 1) = 30 from n21, sv_nI (by omega) (by decide)] at e8
      rw [hI_rn _ _ (show x + 20 ≠ x + 20 + 1 by omega), s3, nI_1] at e8
      have F8 : FrA (fun a => a = x + 20 ∨ a = x + 21) h h8 := by rw [e8]; exact (FrA.rf.row (Or.inr rfl)).fld (Or.inl rfl)
      have i20 : hI h8 (x + 20) = va_up (hI h (x + 20)) 3 (nI (A.2.2.1.2.2.1 + 1)) := by rw [e8, sI_r, hI_rs, hI_rn _ _ (by omega)]
      have i21 : hI h8 (x + 20 + 1) = va_up (hI h (x + 20 + 1)) A.2.2.1.2.2.1 minute := by rw [e8, sI_r, hI_rn _ _ (by omega), hI_rs]
      have Q8 : QF x h h8 := F8.q (fun a ha => by omega)
      obtain ⟨G8, R8⟩ := Q8.riv hy G Rv
      have r8 : hR h8 (x + 20) 1 = hR h (x + 20) 1 := F8.R _ _
      refine q h8 Q8 (R.mk' (H := (A.2.2.1.1, A.2.2.1.2.1, A.2.2.1.2.2.1 + 1, va_up A.2.2.1.2.2.2 A.2.2.1.2.2.1 minute)) F8.kn (fun a _ _ _ _ h5 h6 _ _ => F8.same (by omega)) (Q8.e2 hy) (by rw [Q8.2.1]; exact Nat.le_refl _) ⟨V.tell ct, by rw [r8]; exact s1, by rw [r8]; exact G8, by rw [r8]; exact R8, by rw [i20, va_up_ne _ _ (by decide)]; exact S.2.2.2.2.1, by rw [i20, va_up_self], ?_⟩ ((R.2.2.2.2.2.st G hy F8).told rfl rfl)) (by rw [i20, va_up_self]; rfl)
      rw [i21]
      exact s6.s rfl
    · rw [s3, show (30 : Int32) = nI 30 by decide, nI_ltI (by omega) (by decide)] at c3
      unfold canTell
      rw [decide_eq_true (show A.2.2.1.2.2.1 = 30 by omega)]
      simp
  refine bX7_addTold_0 ⟨X.2.2.2.2.2.1, fun c => t24 _ (fun hm => ?_), fun c => c_get k21 (by rw [show hN h (x + 20 + 1) = 30 from n21]; decide) ⟨_, rfl, t24 _ (fun hm => ?_)⟩⟩
  · rw [s3, ← nI_0, nI_eq (by omega) (by decide)] at c
    rw [decide_eq_true c, Bool.true_or]
    exact ⟨fun _ => rfl, fun _ hn => absurd (Int32.le_trans hm hn) (by decide)⟩
  · rw [s3, ← nI_0, nI_eq (by omega) (by decide)] at c
    rw [decide_eq_false c, Bool.false_or, decide_eq_true_eq]
    have e : gv (hN h (x + 20 + 1)) (hI h (x + 20 + 1)) (hI h (x + 20) 3 - 1) = A.2.2.1.2.2.2 (A.2.2.1.2.2.1 - 1) := by
      rw [show hN h (x + 20 + 1) = 30 from n21, s3]
      obtain ⟨k, hk⟩ : ∃ k, A.2.2.1.2.2.1 = k + 1 := ⟨A.2.2.1.2.2.1 - 1, by omega⟩
      rw [hk, nI_pred, gv_nI (by omega) (by decide), s6 k (by omega), Nat.add_sub_cancel]
    rw [e]
    exact Int32.not_le
theorem c_tellX {minute : Int32} (R : RepX x y h A) (q : ∀ h', QF x h h' → RepX x y h' (oTell A minute) → Q (some (.int (aTell A.2.2.1 minute))) h') : EvM w mX9_tell (d + 2) [.ref x, .int minute] h Q := by
  unfold aTell at q
  refine bX9_tell_0 ⟨R.2.1.1, c_addTold R (fun h2 F2 R2 e2 => ⟨_, rfl, fun c => ?_, fun c => ⟨R2.2.1.1, R2.2.1.2.2.2.2.2.1, ?_⟩⟩)⟩
  · cases hh : canTell A.2.2.1 minute with
    | true => rw [hh] at c; exact absurd c (by decide)
    | false => rw [hh] at q; exact q h2 F2 R2
  · cases hh : canTell A.2.2.1 minute with
    | false => rw [hh] at c; exact absurd rfl c
    | true =>
      rw [hh] at q
      have : hI h2 (x + 20) 3 = nI (A.2.2.1.2.2.1 + 1) := by
        rw [e2]
        unfold oTell
        rw [hh]
        rfl
      rw [this]
      exact q h2 F2 R2
end XSTATE
