/-! The class's take and mark. -/
section XMARK
variable {w : am_W} {d : Nat} {h h1 : am_H} {Q : Option Value → am_H → Prop} {x y σ τ : Nat} {A : rA} {H : rH}
set_option maxHeartbeats 4000000 in
theorem c_take {n : Nat} (Ls : am_L 7 σ h) (Lt : am_L 7 τ h) (ns : hN h (σ + 1) = 30) (nt : hN h (τ + 1) = 30) (hst : σ + 1 < τ ∨ τ + 1 < σ) (hr : hR h τ 1 ≠ 0) (hn : hI h τ 3 = nI n) (hn2 : n ≤ 30)
    (q : ∀ h', FrS σ h h' → hR h' σ 1 = hR h τ 1 → hI h' σ = va_up (va_up (hI h σ) 2 (hI h τ 2)) 3 (nI n) → eqR n (hI h' (σ + 1)) (hI h (τ + 1)) → Q none h') : EvM w mX7_take (d + 1) [.ref σ, .ref τ] h Q := by
  refine bX7_take_0 ⟨Lt, hr, Ls, fun h4 e4 h5 e5 h6 e6 => ?_⟩
  have i4 : hI h4 = hI h := by rw [e4]; rfl
  have i5 : ∀ a, a ≠ σ → hI h5 a = hI h a := fun a ha => by rw [e5, sI_r, hI_rn _ _ ha, i4]
  have i5' : hI h5 σ = va_up (hI h σ) 2 (hI h τ 2) := by rw [e5, sI_r, hI_rs, i4]
  rw [i5 τ (by omega), hn] at e6
  have i6 : ∀ a, a ≠ σ → hI h6 a = hI h a := fun a ha => by rw [e6, sI_r, hI_rn _ _ ha, i5 a ha]
  have i6' : hI h6 σ = va_up (va_up (hI h σ) 2 (hI h τ 2)) 3 (nI n) := by rw [e6, sI_r, hI_rs, i5']
  have k6 : hK h6 = hK h ∧ hN h6 = hN h ∧ hJ h6 = hJ h ∧ hZ h6 = hZ h ∧ hS h6 = hS h := by rw [e6, e5, e4]; exact ⟨rfl, rfl, rfl, rfl, rfl⟩
  have r6 : (∀ a, a ≠ σ → hR h6 a = hR h a) ∧ hR h6 σ = va_up (hR h σ) 1 (hR h τ 1) := by
    rw [e6, e5, e4]
    exact ⟨fun a ha => va_up_ne _ _ ha, va_up_self _ _ _⟩
  have L6s : am_L 7 σ h6 := by
    refine ⟨by rw [k6.1]; exact Ls.1, fun p hp => ?_⟩
    have : p = (0, 1, 12) := by simpa [am_lay] using hp
    subst this
    rw [r6.2, va_up_ne _ _ (by decide), k6.1]
    exact Ls.2 _ hp
  have L6t : am_L 7 τ h6 := by
    refine ⟨by rw [k6.1]; exact Lt.1, fun p hp => ?_⟩
    rw [r6.1 τ (by omega), k6.1]
    exact Lt.2 p hp
  have loop : ∀ k p, p + k = n → ∀ hc, FrA (fun a => a = σ + 1) h6 hc → eqR p (hI hc (σ + 1)) (hI h (τ + 1)) → Ev w (am_Z w) mX7_take (d + 1) 26 [(0, .ref σ), (1, .ref τ), (2, .int (nI p))] [] hc Q := by
    intro k
    induction k with
    | zero =>
      intro p hp hc F E
      have hp : p = n := by omega
      subst hp
      refine bX7_take_26 ⟨F.L L6s, fun _ => ?_, fun c => absurd (by rw [F.I (by omega), i6', va_up_self]; exact Int32.le_refl _) c⟩
      refine q hc ⟨by rw [F.1]; exact k6.1, by rw [F.2.1]; exact k6.2.1, by rw [F.2.2.1]; exact k6.2.2.1, by rw [F.2.2.2.2.1]; exact k6.2.2.2.1, by rw [F.2.2.2.2.2.1]; exact k6.2.2.2.2, fun a ha => by rw [F.2.2.2.1]; exact r6.1 a ha, fun j hj => by rw [F.2.2.2.1, r6.2, va_up_ne _ _ hj], fun a h1 h2 => by rw [F.I h2, i6 a h1]⟩ (by rw [F.2.2.2.1, r6.2, va_up_self]) (by rw [F.I (by omega), i6']) E
    | succ k ih =>
      intro p hp hc F E
      refine bX7_take_26 ⟨F.L L6s, fun c => absurd c (by rw [F.I (by omega), i6', va_up_self, nI_leI (by omega) (by omega)]; omega), fun _ => ⟨F.L L6t, c_get (by rw [F.K]; exact L6t.s 0 rfl) (by rw [F.N, k6.2.1, nt]; decide) ⟨_, rfl, c_set (by rw [F.K]; exact L6s.s 0 rfl) (by rw [F.N, k6.2.1, ns]; decide) ⟨rfl, ?_⟩⟩⟩⟩
      rw [F.N, F.N, k6.2.1, nt, ns, gv_nI (by omega) (by decide), sv_nI (by omega) (by decide), nI_1]
      refine ih (p + 1) (by omega) _ (F.row rfl) ?_
      rw [hI_rs]
      exact eqR.sv E (by rw [F.I (by omega), i6 _ (by omega)])
  exact loop n 0 (by omega) h6 FrA.rf (fun p hp => absurd hp (Nat.not_lt_zero _))
theorem FrS.q (F : FrS σ h h1) (hs : x + 13 ≤ σ ∧ σ + 1 ≤ x + 68) : QF x h h1 := ⟨fun a ha => F.same (by omega) (by omega), F.2.2.2.1, F.2.2.2.2.1⟩
theorem b2i (b : Int32) (hb : b = 0 ∨ b = 1) : (b = 0 ↔ (!decide (b = 0)) = false) := by
  rcases hb with e | e <;> subst e <;> decide
set_option maxHeartbeats 4000000 in
theorem c_markX {i b : Int32} (R : RepX x y h A) (q : ∀ h', QF x h h' → RepX x y h' (oMark A i (!decide (b = 0))) → Q (some (.int (if canMark A i (!decide (b = 0)) then 1 else 0))) h') : EvM w mX9_mark (d + 2) [.ref x, .int i, .int b] h Q := by
  obtain ⟨V, s1, G, Rv⟩ := R.st
  have S := R.2.2.2.1
  have X := R.2.1
  have hy := R.1
  have n22 : hN h (x + 22) = 4 := X.2.2.2.2.2.2.2.1
  have mk := X.2.2.2.2.2.2.2.2.1
  have no : canMark A i (!decide (b = 0)) = false → Q (some (.int 0)) h := by
    intro cn
    unfold oMark at q
    rw [cn] at q
    exact q h QF.rf R
  refine bX9_mark_0 ⟨fun c => no ?_, fun c => ⟨X.1, fun c2 => ?_, fun c2 => no ?_⟩⟩
  · unfold canMark
    rw [decide_eq_false (fun hh => absurd (Int32.lt_of_lt_of_le c hh.1) Int32.lt_irrefl)]
    rfl
  · rw [n22] at c2
    obtain ⟨k, hk, rfl⟩ := nI_of c
    rw [nI_ltI hk (by decide)] at c2
    have kc : (nI k).toNatClampNeg = k := nI_clamp hk
    obtain ⟨m1, m2, m3⟩ := mk k c2
    obtain ⟨m4, m5⟩ := R.2.2.2.2.1 k c2
    have hσ : x + 23 + 2 * k = x + 20 ∨ x + 23 + 2 * k = x + 23 ∨ x + 23 + 2 * k = x + 25 ∨ x + 23 + 2 * k = x + 27 ∨ x + 23 + 2 * k = x + 29 := by omega
    have inr : decide (0 ≤ nI k ∧ nI k ≤ 3) = true := decide_eq_true ⟨nI_pos' hk, by rw [show (3 : Int32) = nI 3 by decide]; exact nI_le (by omega) (by decide)⟩
    rw [kc]
    refine ⟨fun c3 => ⟨by rw [n22]; exact vp_in_nI c2 (by decide), by rw [m1]; omega, by rw [m1]; exact m2, ?_⟩, fun c3 => ⟨by rw [n22]; exact vp_in_nI c2 (by decide), by rw [m1]; omega, by rw [m1]; exact m2, fun c4 => no ?_, fun c4 => ⟨by rw [n22]; exact vp_in_nI c2 (by decide), by rw [m1]; omega, ?_⟩⟩⟩
    · -- a mark is laid
      have cm : canMark A (nI k) (!decide (b = 0)) = true := by
        unfold canMark
        rw [inr, decide_eq_true c3]
        rfl
      unfold oMark at q
      rw [cm, decide_eq_true c3] at q
      rw [m1]
      refine c_take (σ := x + 23 + 2 * k) (τ := x + 20) (n := A.2.2.1.2.2.1) m2 X.2.2.2.2.2.1 (by rw [show x + 23 + 2 * k + 1 = x + 24 + 2 * k by omega]; exact m3) X.2.2.2.2.2.2.1 (by omega) s1 S.2.2.2.2.2.1 V.2.2.1 (fun h5 F5 r5 i5 e5 => ⟨rfl, ?_⟩)
      have X5 := X.kn (F5.kn hσ)
      obtain ⟨m1', m2', m3'⟩ := X5.2.2.2.2.2.2.2.2.1 k c2
      refine ⟨X5.1, by rw [X5.2.2.2.2.2.2.2.1]; exact vp_in_nI c2 (by decide), by rw [m1']; omega, by rw [m1']; exact m2', fun h11 e11 => ?_⟩
      rw [m1'] at e11
      have F11 : FrA (fun a => a = x + 23 + 2 * k) h5 h11 := by rw [e11]; exact FrA.rf.fld rfl
      have Q11 : QF x h h11 := (F5.q (by omega)).tr (F11.q (fun a ha => by omega))
      have N11 : KN x h h11 := (F5.kn hσ).tr F11.kn
      have sa : ∀ a, a ≠ x + 23 + 2 * k → a ≠ x + 23 + 2 * k + 1 → same h h11 a := fun a p q => (F5.same p q).tr (F11.same p)
      have e2 := Q11.e2 hy
      have ee : ∀ a, x + 1 ≤ a → a ≤ x + 12 → same h h11 a := fun a p q => Q11.1 a (by omega)
      have hz : hZ h ≤ hZ h11 := by rw [Q11.2.1]; exact Nat.le_refl _
      obtain ⟨t1, t2, t3⟩ := R.2.2.1
      have i11 : hI h11 (x + 23 + 2 * k) = va_up (hI h5 (x + 23 + 2 * k)) 4 1 := by rw [e11, sI_r, hI_rs]
      obtain ⟨G11, R11⟩ := Q11.riv hy G Rv
      refine q h11 Q11 ⟨hy, X.kn N11, ⟨by rw [(sa (x + 13) (by omega) (by omega)).2.2.1]; exact t1, by rw [(sa (x + 14) (by omega) (by omega)).2.2.1]; exact t2, t3⟩, S.sm (sa _ (by omega) (by omega)) (sa _ (by omega) (by omega)) ee e2 hz, fun j hj => ?_, ?_⟩
      · show hI h11 (x + 23 + 2 * j) 4 = (if va_up A.2.2.2.1 (nI k).toNatClampNeg true j then 1 else 0) ∧ (va_up A.2.2.2.1 (nI k).toNatClampNeg true j = true → StX x y (x + 23 + 2 * j) h11 (va_up A.2.2.2.2 (nI k).toNatClampNeg A.2.2.1 j))
        rw [kc]
        by_cases ej : j = k
        · subst ej
          rw [va_up_self, va_up_self]
          refine ⟨by rw [i11, va_up_self]; rfl, fun _ => ?_⟩
          have r11 : hR h11 (x + 23 + 2 * j) 1 = hR h (x + 20) 1 := by rw [F11.R, r5]
          refine ⟨V, by rw [r11]; exact s1, by rw [r11]; exact G11, by rw [r11]; exact R11, ?_, ?_, ?_⟩
          · rw [i11, va_up_ne _ _ (by decide), i5, va_up_ne _ _ (by decide), va_up_self]; exact S.2.2.2.2.1
          · rw [i11, va_up_ne _ _ (by decide), i5, va_up_self]
          · rw [F11.I (by omega)]
            intro p hp
            rw [e5 p hp]
            exact S.2.2.2.2.2.2 p hp
        · rw [va_up_ne _ _ ej, va_up_ne _ _ ej]
          obtain ⟨u1, u2⟩ := R.2.2.2.2.1 j hj
          have sj := sa (x + 23 + 2 * j) (by omega) (by omega)
          exact ⟨by rw [sj.2.2.1]; exact u1, fun hl => (u2 hl).sm sj (sa _ (by omega) (by omega)) ee e2 hz⟩
      · have C := R.2.2.2.2.2
        obtain ⟨g1, g2⟩ := G.same (h1 := h11) ee e2
        have i := fun a p q => (sa a p q).2.2.1
        refine ⟨?_, ?_, ?_⟩
        · rw [i x (by omega) (by omega), (sa (x + 20) (by omega) (by omega)).2.2.2.2]
          rcases C.1 with c1 | ⟨c1, c1'⟩
          · exact Or.inl c1
          · exact Or.inr ⟨c1, c1'.sm (fun a p q => sa a (by omega) (by omega)) g1 g2 (g1 _ (by omega) (by omega))⟩
        · unfold ChX
          rw [i (x + 57) (by omega) (by omega), i (x + 58) (by omega) (by omega), i (x + 59) (by omega) (by omega), i (x + 60) (by omega) (by omega)]
          exact C.2.1
        · unfold LtX
          rw [i (x + 62) (by omega) (by omega)]
          exact C.2.2
    · -- nothing is on it
      unfold canMark
      have l0 : A.2.2.2.1 k = false := by
        cases hh : A.2.2.2.1 k with
        | false => rfl
        | true => rw [m1, m4, hh] at c4; exact absurd c4 (by decide)
      rw [kc, l0, decide_eq_false c3]
      simp
    · -- back to it
      have l1 : A.2.2.2.1 k = true := by
        cases hh : A.2.2.2.1 k with
        | true => rfl
        | false => rw [m1, m4, hh] at c4; exact absurd rfl c4
      have cm : canMark A (nI k) (!decide (b = 0)) = true := by
        unfold canMark
        rw [inr, kc, l1]
        simp
      unfold oMark at q
      rw [cm, decide_eq_false c3, kc] at q
      rw [m1]
      have S5 := m5 l1
      refine c_take (σ := x + 20) (τ := x + 23 + 2 * k) (n := (A.2.2.2.2 k).2.2.1) X.2.2.2.2.2.1 m2 X.2.2.2.2.2.2.1 (by rw [show x + 23 + 2 * k + 1 = x + 24 + 2 * k by omega]; exact m3) (by omega) S5.2.1 S5.2.2.2.2.2.1 S5.1.2.2.1 (fun h5 F5 r5 i5 e5 => ⟨rfl, (X.kn (F5.kn (Or.inl rfl))).1, c_forget (X.kn (F5.kn (Or.inl rfl))) (fun h6 F6 f1 f2 f3 => ⟨rfl, ?_⟩)⟩)
      have Q6 : QF x h h6 := (F5.q (by omega)).tr (F6.q (fun a ha => by omega))
      obtain ⟨G6, R6⟩ := Q6.riv hy S5.2.2.1 S5.2.2.2.1
      have r6 : hR h6 (x + 20) 1 = hR h (x + 23 + 2 * k) 1 := by rw [F6.R, r5]
      have i6 : hI h6 (x + 20) = va_up (va_up (hI h (x + 20)) 2 (hI h (x + 23 + 2 * k) 2)) 3 (nI (A.2.2.2.2 k).2.2.1) := by rw [F6.I (by omega), i5]
      refine q h6 Q6 (R.mk' (H := A.2.2.2.2 k) ((F5.kn (Or.inl rfl)).tr F6.kn) (fun a h1 h2 h3 h4 h5 h6 h7 h8 => (F5.same h5 (by omega)).tr (F6.same (by omega))) (Q6.e2 hy) (by rw [Q6.2.1]; exact Nat.le_refl _) ⟨S5.1, by rw [r6]; exact S5.2.1, by rw [r6]; exact G6, by rw [r6]; exact R6, ?_, by rw [i6, va_up_self], ?_⟩ (CaX.none f1 f2 f3))
      · rw [i6, va_up_ne _ _ (by decide), va_up_self]; exact S5.2.2.2.2.1
      · rw [F6.I (by omega)]
        intro p hp
        rw [e5 p hp]
        exact S5.2.2.2.2.2.2 p hp
  · rw [n22] at c2
    obtain ⟨k, hk, rfl⟩ := nI_of c
    rw [nI_ltI hk (by decide)] at c2
    unfold canMark
    rw [decide_eq_false (fun hh => by
      have := hh.2
      rw [show (3 : Int32) = nI 3 by decide, nI_leI hk (by decide)] at this
      omega)]
    rfl
end XMARK
