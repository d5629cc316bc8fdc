/-! How the class holds what a run has told. -/
/-- a river of the class -/
def RvX (ρ : Nat) (h : am_H) (t : rT) : Prop := am_L 6 ρ h ∧ (∃ l, CwX (ρ + 1) 16 (tN t) l (tAt t) (tWt t) (fun p => cof (tKd t p)) h) ∧ eqR (tN t) (hI h (ρ + 3)) (tSd t) ∧ (hN h (ρ + 7) = 16 ∧ eqR (tN t) (hI h (ρ + 7)) (tCo t)) ∧ (hN h (ρ + 8) = 16 ∧ eqR (tN t) (hI h (ρ + 8)) (fun p => tKd t p + 81)) ∧ (hN h (ρ + 9) = 8 ∧ ∀ k, k < chs (tKd t) (tN t) → hI h (ρ + 9) k = nI (chp (tKd t) (tN t) k)) ∧
  (hI h ρ 6 = nI (tRoom t) ∧ hI h ρ 7 = nI (tTrip t) ∧ hI h ρ 8 = nI (tBoats t) ∧ hI h ρ 9 = nI (tShare t) ∧ hI h ρ 10 = nI (tOf t) ∧ hI h ρ 11 = nI (tCome t) ∧ hI h ρ 12 = nI (chs (tKd t) (tN t)) ∧ hI h ρ 13 = nI (tLaws t)) ∧ (hN h (ρ + 10) = 5 ∧ hR h ρ 5 ≠ 0 ∧ hK h (hR h ρ 5) = 12 ∧ hN h (hR h ρ 5) ≤ 1000) ∧
  ∀ i, i < tLaws t → (∃ a b, hI h (ρ + 10) i = nI a ∧ hI h (ρ + 10) (i + 1) = nI b ∧ a ≤ b ∧ b ≤ hN h (hR h ρ 5) ∧ RpnOK (hI h (hR h ρ 5)) a b (tLf t i)) ∧ ((hI h ρ 14 >>> (nI i &&& 31)) &&& 1 = 0 → ∀ V V' : Nat → Int32, (∀ k, 1 ≤ k → k ≤ 4 → V k = V' k) → tLf t i V = tLf t i V')
theorem RvX.sm {ρ : Nat} {h h1 : am_H} {t : rT} (R : RvX ρ h t) (e : ∀ a, ρ ≤ a → a ≤ ρ + 11 → same h h1 a) (e2 : same h h1 (hR h ρ 5)) : RvX ρ h1 t := by
  obtain ⟨a1, ⟨l, a2⟩, a3, a4, a5, a6, a7, a8, a9⟩ := R
  refine ⟨a1.sm (M := 11) (by decide) e, ⟨l, a2.sm (fun a h1 h2 => e a (by omega) (by omega))⟩, ?_, ?_, ?_, ?_, ?_, ?_, ?_⟩
  · rw [(e (ρ + 3) (by omega) (by omega)).2.2.1]; exact a3
  · rw [(e (ρ + 7) (by omega) (by omega)).2.2.1, (e (ρ + 7) (by omega) (by omega)).2.1]; exact a4
  · rw [(e (ρ + 8) (by omega) (by omega)).2.2.1, (e (ρ + 8) (by omega) (by omega)).2.1]; exact a5
  · rw [(e (ρ + 9) (by omega) (by omega)).2.2.1, (e (ρ + 9) (by omega) (by omega)).2.1]; exact a6
  · rw [(e ρ (by omega) (by omega)).2.2.1]; exact a7
  · rw [(e ρ (by omega) (by omega)).2.2.2.2, (e (ρ + 10) (by omega) (by omega)).2.1, e2.1, e2.2.1]; exact a8
  · rw [(e ρ (by omega) (by omega)).2.2.2.2, (e ρ (by omega) (by omega)).2.2.1, (e (ρ + 10) (by omega) (by omega)).2.2.1, e2.2.1, e2.2.2.1]; exact a9
/-- where rivers lie -/
def Rgd (x y ρ : Nat) (h : am_H) : Prop := (ρ = x + 1 ∧ hR h ρ 5 = x + 12) ∨ (y ≤ ρ ∧ ρ + 12 < hZ h ∧ hR h ρ 5 = ρ + 12)
/-- rivers, and all that isn't the class's own, stay -/
def QF (x : Nat) (h h' : am_H) : Prop := (∀ a, a < x ∨ (x + 1 ≤ a ∧ a ≤ x + 12) ∨ x + 69 ≤ a → same h h' a) ∧ hZ h' = hZ h ∧ hS h' = hS h
theorem QF.rf {x : Nat} {h : am_H} : QF x h h := ⟨fun _ _ => same.rf, rfl, rfl⟩
theorem QF.tr {x : Nat} {h h1 h2 : am_H} (a : QF x h h1) (b : QF x h1 h2) : QF x h h2 := ⟨fun c hc => (a.1 c hc).tr (b.1 c hc), b.2.1.trans a.2.1, b.2.2.trans a.2.2⟩
theorem FrA.q {x : Nat} {h h1 : am_H} {Z : Nat → Prop} (F : FrA Z h h1) (hz : ∀ a, Z a → a = x ∨ (x + 13 ≤ a ∧ a ≤ x + 68)) : QF x h h1 := ⟨fun a ha => F.same (fun z => by have := hz a z; omega), F.2.2.2.2.1, F.2.2.2.2.2.1⟩
theorem FrG.q {x D : Nat} {h h1 : am_H} (F : FrG D h h1) (hd : x + 13 ≤ D ∧ D + 12 ≤ x + 68) : QF x h h1 := ⟨fun a ha => F.same (by unfold Out; omega), F.2.2.2.1, F.2.2.2.2.1⟩
theorem Rgd.out {x y ρ D : Nat} {h : am_H} (R : Rgd x y ρ h) (hy : x + 69 ≤ y) (hd : x + 13 ≤ D ∧ D + 12 ≤ x + 68) : (∀ a, ρ ≤ a → a ≤ ρ + 11 → Out D a) ∧ Out D (hR h ρ 5) := by
  unfold Out
  rcases R with ⟨e, e2⟩ | ⟨e1, e2, e3⟩
  · exact ⟨fun a h1 h2 => by omega, by omega⟩
  · exact ⟨fun a h1 h2 => by omega, by omega⟩
theorem Rgd.same {x y ρ : Nat} {h h1 : am_H} (R : Rgd x y ρ h) (e1 : ∀ a, x + 1 ≤ a → a ≤ x + 12 → same h h1 a) (e2 : ∀ a, y ≤ a → a < hZ h → same h h1 a) : (∀ a, ρ ≤ a → a ≤ ρ + 11 → same h h1 a) ∧ same h h1 (hR h ρ 5) := by
  rcases R with ⟨e, f⟩ | ⟨e, f, g⟩
  · exact ⟨fun a h1 h2 => e1 a (by omega) (by omega), by rw [f]; exact e1 _ (by omega) (by omega)⟩
  · exact ⟨fun a h1 h2 => e2 a (by omega) (by omega), by rw [g]; exact e2 _ (by omega) (by omega)⟩
theorem Rgd_sm {x y ρ : Nat} {h h1 : am_H} (R : Rgd x y ρ h) (e1 : ∀ a, x + 1 ≤ a → a ≤ x + 12 → same h h1 a) (e2 : ∀ a, y ≤ a → a < hZ h → same h h1 a) (hz : hZ h ≤ hZ h1) : Rgd x y ρ h1 := by
  have := (R.same e1 e2).1 ρ (by omega) (by omega)
  unfold Rgd
  rw [this.2.2.2.2]
  rcases R with ⟨e, f⟩ | ⟨e, f, g⟩
  · exact Or.inl ⟨e, f⟩
  · exact Or.inr ⟨e, by omega, g⟩
/-- a state of the class: the river, the law that goes, the told ringings -/
def StX (x y σ : Nat) (h : am_H) (H : rH) : Prop := VH H ∧ hR h σ 1 ≠ 0 ∧ Rgd x y (hR h σ 1) h ∧ RvX (hR h σ 1) h H.1 ∧ hI h σ 2 = H.2.1 ∧ hI h σ 3 = nI H.2.2.1 ∧ eqR H.2.2.1 (hI h (σ + 1)) H.2.2.2
theorem StX.sm {x y σ : Nat} {h h1 : am_H} {H : rH} (A : StX x y σ h H) (s0 : same h h1 σ) (s1 : same h h1 (σ + 1)) (e1 : ∀ a, x + 1 ≤ a → a ≤ x + 12 → same h h1 a) (e2 : ∀ a, y ≤ a → a < hZ h → same h h1 a) (hz : hZ h ≤ hZ h1) : StX x y σ h1 H := by
  obtain ⟨a0, a1, a2, a3, a4, a5, a6⟩ := A
  unfold StX
  rw [s0.2.2.2.2, s0.2.2.1, s1.2.2.1]
  obtain ⟨q1, q2⟩ := a2.same e1 e2
  exact ⟨a0, a1, Rgd_sm a2 e1 e2 hz, a3.sm q1 q2, a4, a5, a6⟩
/-- the cells of the class -/
def XL (x : Nat) (h : am_H) : Prop := am_L 9 x h ∧ am_L 8 (x + 13) h ∧ (hN h (x + 14) = 1000 ∧ hN h (x + 15) = 1001 ∧ hN h (x + 16) = 1001) ∧ am_L 5 (x + 17) h ∧ (hN h (x + 18) = 16 ∧ hN h (x + 19) = 1000 ∧ hR h (x + 17) 0 = x + 13) ∧ am_L 7 (x + 20) h ∧ hN h (x + 21) = 30 ∧ hN h (x + 22) = 4 ∧ (∀ i, i < 4 → hR h (x + 22) i = x + 23 + 2 * i ∧ am_L 7 (x + 23 + 2 * i) h ∧ hN h (x + 24 + 2 * i) = 30) ∧
  DLy (x + 31) 16 h ∧ DLy (x + 44) 300 h ∧ am_L 1 (x + 57) h ∧ (hN h (x + 58) = 256 ∧ hN h (x + 59) = 2048 ∧ hN h (x + 60) = 256 ∧ hN h (x + 61) = 16) ∧ am_L 4 (x + 62) h ∧ am_L 2 (x + 63) h ∧ (hN h (x + 64) = 300 ∧ hN h (x + 65) = 300 ∧ hN h (x + 66) = 300 ∧ hN h (x + 67) = 300 ∧ hN h (x + 68) = 300)
/-- references that stay -/
def Kp (x a k : Nat) : Prop := ¬ ((a = x + 31 ∨ a = x + 44) ∧ 12 ≤ k) ∧ ¬ ((a = x + 20 ∨ a = x + 23 ∨ a = x + 25 ∨ a = x + 27 ∨ a = x + 29) ∧ k = 1) ∧ ¬ (a = x + 17 ∧ k = 3)
def KN (x : Nat) (h h' : am_H) : Prop := (∀ a, x ≤ a → a ≤ x + 68 → hK h' a = hK h a ∧ hN h' a = hN h a) ∧ ∀ a k, x ≤ a → a ≤ x + 68 → Kp x a k → hR h' a k = hR h a k
theorem am_L.kn {x ci b M : Nat} {h h' : am_H} (A : am_L ci b h) (N : KN x h h') (hb : x ≤ b) (hM : ∀ q ∈ am_lay ci, q.2.1 ≤ M ∧ Kp x b q.1) (hb2 : b + M ≤ x + 68) : am_L ci b h' := by
  refine ⟨by rw [(N.1 b hb (by omega)).1]; exact A.1, fun q hq => ?_⟩
  obtain ⟨h1, h2⟩ := hM q hq
  rw [N.2 b q.1 hb (by omega) h2, (N.1 (b + q.2.1) (by omega) (by omega)).1]
  exact A.2 q hq
theorem Kp_all {x b : Nat} {l : List (Nat × Nat × Nat)} {M : Nat} (hl : ∀ q ∈ l, q.2.1 ≤ M ∧ q.1 < 12) (h1 : ¬ (b = x + 20 ∨ b = x + 23 ∨ b = x + 25 ∨ b = x + 27 ∨ b = x + 29)) (h2 : b ≠ x + 17) : ∀ q ∈ l, q.2.1 ≤ M ∧ Kp x b q.1 := fun q hq => ⟨(hl q hq).1, by have := (hl q hq).2; unfold Kp; omega⟩
theorem Kp_7 {x b : Nat} : ∀ q ∈ am_lay 7, q.2.1 ≤ 1 ∧ Kp x b q.1 := by
  intro q hq
  have : q = (0, 1, 12) := by simpa [am_lay] using hq
  subst this
  exact ⟨Nat.le_refl _, by unfold Kp; omega⟩
theorem DLy.kn {x D L : Nat} {h h' : am_H} (A : DLy D L h) (N : KN x h h') (h1 : x + 30 ≤ D) (h2 : D + 12 ≤ x + 68) : DLy D L h' := by
  obtain ⟨a1, ⟨b1, b2, b3⟩, ⟨c1, c2, c3⟩, a4⟩ := A
  refine ⟨a1.kn N (by omega) (M := 12) (Kp_all (by decide) (by omega) (by omega)) h2, ⟨b1.kn N (by omega) (M := 1) (Kp_all (by decide) (by omega) (by omega)) (by omega), by rw [(N.1 _ (by omega) (by omega)).2]; exact b2, b3⟩, ⟨c1.kn N (by omega) (M := 1) (Kp_all (by decide) (by omega) (by omega)) (by omega), by rw [(N.1 _ (by omega) (by omega)).2]; exact c2, c3⟩, ?_⟩
  rw [(N.1 (D + 1) (by omega) (by omega)).2, (N.1 (D + 2) (by omega) (by omega)).2, (N.1 (D + 3) (by omega) (by omega)).2, (N.1 (D + 8) (by omega) (by omega)).2, (N.1 (D + 9) (by omega) (by omega)).2, (N.1 (D + 10) (by omega) (by omega)).2, (N.1 (D + 11) (by omega) (by omega)).2, (N.1 (D + 12) (by omega) (by omega)).2]
  exact a4
theorem XL.kn {x : Nat} {h h' : am_H} (A : XL x h) (N : KN x h h') : XL x h' := by
  obtain ⟨a1, a2, a3, a4, a5, a6, a7, a8, a9, a10, a11, a12, a13, a14, a15, a16⟩ := A
  have n := fun a h1 h2 => (N.1 a h1 h2).2
  refine ⟨a1.kn N (by omega) (M := 62) (Kp_all (by decide) (by omega) (by omega)) (by omega), a2.kn N (by omega) (M := 3) (Kp_all (by decide) (by omega) (by omega)) (by omega), ?_, a4.kn N (by omega) (M := 2) (fun q hq => ?_) (by omega), ?_, a6.kn N (by omega) (M := 1) Kp_7 (by omega), ?_, ?_, fun i hi => ?_, a10.kn N (by omega) (by omega), a11.kn N (by omega) (by omega), a12.kn N (by omega) (M := 4) (Kp_all (by decide) (by omega) (by omega)) (by omega), ?_, a14.kn N (by omega) (M := 1) (Kp_all (by decide) (by omega) (by omega)) (by omega), a15.kn N (by omega) (M := 5) (Kp_all (by decide) (by omega) (by omega)) (by omega), ?_⟩
  · rw [n (x + 14) (by omega) (by omega), n (x + 15) (by omega) (by omega), n (x + 16) (by omega) (by omega)]; exact a3
  · have : q = (1, 1, 13) ∨ q = (2, 2, 12) := by simpa [am_lay] using hq
    rcases this with e | e <;> (subst e; exact ⟨by decide, by unfold Kp; omega⟩)
  · rw [n (x + 18) (by omega) (by omega), n (x + 19) (by omega) (by omega), N.2 (x + 17) 0 (by omega) (by omega) (by unfold Kp; omega)]; exact a5
  · rw [n (x + 21) (by omega) (by omega)]; exact a7
  · rw [n (x + 22) (by omega) (by omega)]; exact a8
  · obtain ⟨b1, b2, b3⟩ := a9 i hi
    exact ⟨by rw [N.2 (x + 22) i (by omega) (by omega) (by unfold Kp; omega)]; exact b1, b2.kn N (by omega) (M := 1) Kp_7 (by omega), by rw [n _ (by omega) (by omega)]; exact b3⟩
  · rw [n (x + 58) (by omega) (by omega), n (x + 59) (by omega) (by omega), n (x + 60) (by omega) (by omega), n (x + 61) (by omega) (by omega)]; exact a13
  · rw [n (x + 64) (by omega) (by omega), n (x + 65) (by omega) (by omega), n (x + 66) (by omega) (by omega), n (x + 67) (by omega) (by omega), n (x + 68) (by omega) (by omega)]; exact a16
theorem FrA.kn {x : Nat} {h h1 : am_H} {Z : Nat → Prop} (F : FrA Z h h1) : KN x h h1 := ⟨fun a _ _ => ⟨by rw [F.1], by rw [F.2.1]⟩, fun a k _ _ _ => by rw [F.2.2.2.1]⟩
theorem FrG.kn {x D : Nat} {h h1 : am_H} (F : FrG D h h1) (hd : D = x + 31 ∨ D = x + 44) : KN x h h1 := by
  refine ⟨fun a _ _ => ⟨by rw [F.1], by rw [F.2.1]⟩, fun a k _ _ hk => ?_⟩
  by_cases e : a = D
  · rw [e]
    exact F.2.2.2.2.2.2.1 k (by unfold Kp at hk; omega)
  · rw [F.2.2.2.2.2.1 a e]
theorem KN.of {x : Nat} {h h1 : am_H} (e : ∀ a, x ≤ a → a ≤ x + 68 → same h h1 a) : KN x h h1 := ⟨fun a h1 h2 => ⟨(e a h1 h2).1, (e a h1 h2).2.1⟩, fun a k h1 h2 _ => by rw [(e a h1 h2).2.2.2.2]⟩
