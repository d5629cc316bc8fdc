/-! How the class holds what a run has told: all of it. -/
section XREP
variable {h h1 : am_H} {D L Lc n ρ c s room kr j : Nat} {P : rP} {l : List Nat} {trip boats : Int32} {lf : (Nat → Int32) → Int32} {S : rS}
theorem DC.sm (A : DC D L Lc n ρ c s P l room trip boats lf h) (e0 : ∀ a, D ≤ a → a ≤ D + 12 → same h h1 a) (e1 : ∀ a, ρ ≤ a → a ≤ ρ + 11 → same h h1 a) (e2 : same h h1 (hR h ρ 5)) (e3 : ∀ a, c ≤ a → a ≤ c + 5 → same h h1 a) (e4 : same h h1 s) : DC D L Lc n ρ c s P l room trip boats lf h1 := by
  obtain ⟨a1, ⟨b1, b2, b3⟩, ⟨c1, c2, c3⟩, a4, a5, a6, ⟨o1, o2, o3, o4⟩, a8, a9, a10, a11, a12⟩ := A
  have n' := fun a h1 h2 => (e0 a h1 h2).2.1
  refine ⟨a1.sm (M := 12) (by decide) e0, ⟨b1.sm (M := 1) (by decide) (fun b h1 h2 => e0 b (by omega) (by omega)), by rw [n' _ (by omega) (by omega)]; exact b2, b3⟩, ⟨c1.sm (M := 1) (by decide) (fun b h1 h2 => e0 b (by omega) (by omega)), by rw [n' _ (by omega) (by omega)]; exact c2, c3⟩, ?_, a5, ?_, ⟨o1, o2, o3, by rw [(e1 ρ (by omega) (by omega)).2.2.2.2]; exact o4⟩, a8.sm e3, ?_, a10.sm e1 e2, ?_, a12⟩
  · rw [n' (D + 1) (by omega) (by omega), n' (D + 2) (by omega) (by omega), n' (D + 3) (by omega) (by omega), n' (D + 8) (by omega) (by omega), n' (D + 9) (by omega) (by omega), n' (D + 10) (by omega) (by omega), n' (D + 11) (by omega) (by omega), n' (D + 12) (by omega) (by omega)]; exact a4
  · rw [(e0 D (by omega) (by omega)).2.2.2.2]; exact a6
  · rw [e4.1, e4.2.1, e4.2.2.1]; exact a9
  · rw [(e0 D (by omega) (by omega)).2.2.1]; exact a11
theorem YS.sm (Y : YS D n P l boats h S kr j) (e : ∀ a, D ≤ a → a ≤ D + 12 → same h h1 a) : YS D n P l boats h1 S kr j := by
  obtain ⟨y1, y2, y3, y4, y5, b0, b1⟩ := Y
  have i := fun a h1 h2 => (e a h1 h2).2.2.1
  exact ⟨by rw [i D (by omega) (by omega)]; exact y1, by rw [i D (by omega) (by omega), i (D + 10) (by omega) (by omega), i (D + 11) (by omega) (by omega), i (D + 12) (by omega) (by omega)]; exact y2, by rw [i (D + 1) (by omega) (by omega)]; exact y3, by rw [i (D + 8) (by omega) (by omega), i (D + 9) (by omega) (by omega)]; exact y4, y5, b0.cg (i _ (by omega) (by omega)) (i _ (by omega) (by omega)), b1.cg (i _ (by omega) (by omega)) (i _ (by omega) (by omega))⟩
end XREP
/-- the day at D is the day of river r, by sides x, in the state S -/
def DyX (D L ρ s : Nat) (h : am_H) (r : rV) (x : Int32) (S : rS) : Prop := ∃ l kr j, DC D L 16 (vN r) ρ (ρ + 1) s (canP r x) l (vRoom r) (vTrip r) (vBoats r) (vLf r) h ∧ YS D (vN r) (canP r x) l (vBoats r) h S kr j
/-- the choices weighed -/
def ChX (x : Nat) (h : am_H) (r : rV) : Prop := chR r (2 ^ ncs r) (hI h (x + 58)) (hI h (x + 59)) ∧ hI h (x + 57) 4 = nI (bstL r (2 ^ ncs r)) ∧ hI h (x + 57) 5 = nI (rssL r (2 ^ ncs r)) ∧ ∀ c, c < 2 ^ ncs r → isR r c = true → hI h (x + 60) (rssL r c) = nI c
/-- the days drawn -/
def LtX (K x : Nat) (h : am_H) (H : rH) : Prop := ∃ sd dn, sd ≤ 9999 ∧ dn ≤ 50 ∧ hI h (x + 62) 2 = nI sd ∧ hI h (x + 62) 3 = nI dn ∧ hI h (x + 62) 4 = (ltA K H sd dn).2.1 ∧ hI h (x + 62) 5 = (ltA K H sd dn).2.2.1 ∧ hI h (x + 62) 6 = (ltA K H sd dn).2.2.2.1 ∧ hI h (x + 62) 7 = (ltA K H sd dn).2.2.2.2.1 ∧ hI h (x + 62) 8 = (ltA K H sd dn).2.2.2.2.2
/-- what is kept of the river and the law -/
def CaX (x y : Nat) (h : am_H) (H : rH) : Prop := (hI h x 8 = 0 ∨ (hI h x 8 = 1 ∧ DyX (x + 31) 16 (hR h (x + 20) 1) (hR h (x + 20) 1 + 3) h (rvOf H) (-1) (dayK (rvOf H) (-1) 1440))) ∧ (hI h (x + 57) 6 = 0 ∨ (hI h (x + 57) 6 = 1 ∧ ChX x h (rvOf H))) ∧ (hI h (x + 62) 1 = 0 ∨ (hI h (x + 62) 1 = 1 ∧ LtX 1440 x h H))
def TpX (x : Nat) (h : am_H) (T : Nat × (Nat → Int32)) : Prop := hI h (x + 13) 3 = nI T.1 ∧ eqR T.1 (hI h (x + 14)) T.2 ∧ tpOK T
def MkX (x y : Nat) (h : am_H) (L : Nat → Bool) (M : Nat → rH) : Prop := ∀ i, i < 4 → hI h (x + 23 + 2 * i) 4 = (if L i then 1 else 0) ∧ (L i = true → StX x y (x + 23 + 2 * i) h (M i))
/-- the class holds it -/
def RepX (x y : Nat) (h : am_H) (A : rA) : Prop := x + 69 ≤ y ∧ XL x h ∧ TpX x h (A.1, A.2.1) ∧ StX x y (x + 20) h A.2.2.1 ∧ MkX x y h A.2.2.2.1 A.2.2.2.2 ∧ CaX x y h A.2.2.1
section XREP2
variable {x y : Nat} {h h1 : am_H} {A : rA} {H : rH}
theorem DyX.sm {D L ρ s : Nat} {r : rV} {v : Int32} {S : rS} (A : DyX D L ρ s h r v S) (e0 : ∀ a, D ≤ a → a ≤ D + 12 → same h h1 a) (e1 : ∀ a, ρ ≤ a → a ≤ ρ + 11 → same h h1 a) (e2 : same h h1 (hR h ρ 5)) (e4 : same h h1 s) : DyX D L ρ s h1 r v S := by
  obtain ⟨l, kr, j, a, b⟩ := A
  exact ⟨l, kr, j, a.sm e0 e1 e2 (fun a h1 h2 => e1 a (by omega) (by omega)) e4, b.sm e0⟩
/-- cells that hold nothing from call to call -/
def Scr (x a : Nat) : Prop := (x + 44 ≤ a ∧ a ≤ x + 56) ∨ a = x + 61 ∨ (x + 63 ≤ a ∧ a ≤ x + 68) ∨ (x + 15 ≤ a ∧ a ≤ x + 19)
theorem CaX.sm (C : CaX x y h H) (G : Rgd x y (hR h (x + 20) 1) h) (e : ∀ a, x ≤ a → a ≤ x + 68 → ¬ Scr x a → same h h1 a) (e2 : ∀ a, y ≤ a → a < hZ h → same h h1 a) : CaX x y h1 H := by
  obtain ⟨c1, c2, c3⟩ := C
  have ns : ∀ a, (a ≤ x + 14 ∨ (x + 20 ≤ a ∧ a ≤ x + 43) ∨ (x + 57 ≤ a ∧ a ≤ x + 60) ∨ a = x + 62) → ¬ Scr x a := fun a ha => by unfold Scr; omega
  obtain ⟨g1, g2⟩ := G.same (fun a h1 h2 => e a (by omega) (by omega) (ns a (by omega))) e2
  have i := fun a h1 h2 h3 => (e a h1 h2 (ns a h3)).2.2.1
  refine ⟨?_, ?_, ?_⟩
  · rw [i x (by omega) (by omega) (by omega), (e (x + 20) (by omega) (by omega) (ns _ (by omega))).2.2.2.2]
    rcases c1 with c1 | ⟨c1, c1'⟩
    · exact Or.inl c1
    · exact Or.inr ⟨c1, c1'.sm (fun a h1 h2 => e a (by omega) (by omega) (ns a (by omega))) g1 g2 (g1 _ (by omega) (by omega))⟩
  · unfold ChX
    rw [i (x + 57) (by omega) (by omega) (by omega), i (x + 58) (by omega) (by omega) (by omega), i (x + 59) (by omega) (by omega) (by omega), i (x + 60) (by omega) (by omega) (by omega)]
    exact c2
  · unfold LtX
    rw [i (x + 62) (by omega) (by omega) (by omega)]
    exact c3
theorem RepX.scr (R : RepX x y h A) (N : KN x h h1) (e : ∀ a, x ≤ a → a ≤ x + 68 → ¬ Scr x a → same h h1 a) (e2 : ∀ a, y ≤ a → a < hZ h → same h h1 a) (hz : hZ h ≤ hZ h1) : RepX x y h1 A := by
  obtain ⟨r1, r2, ⟨t1, t2, t3⟩, r4, r5, r6⟩ := R
  have ns : ∀ a, (a ≤ x + 14 ∨ (x + 20 ≤ a ∧ a ≤ x + 43) ∨ (x + 57 ≤ a ∧ a ≤ x + 60) ∨ a = x + 62) → ¬ Scr x a := fun a ha => by unfold Scr; omega
  have i := fun a h1 h2 h3 => (e a h1 h2 (ns a h3)).2.2.1
  have ee : ∀ a, x + 1 ≤ a → a ≤ x + 12 → same h h1 a := fun a h1 h2 => e a (by omega) (by omega) (ns a (by omega))
  refine ⟨r1, r2.kn N, ⟨by rw [i _ (by omega) (by omega) (by omega)]; exact t1, by rw [i _ (by omega) (by omega) (by omega)]; exact t2, t3⟩, r4.sm (e _ (by omega) (by omega) (ns _ (by omega))) (e _ (by omega) (by omega) (ns _ (by omega))) ee e2 hz, fun k hk => ?_, r6.sm r4.2.2.1 e e2⟩
  obtain ⟨m1, m2⟩ := r5 k hk
  exact ⟨by rw [i _ (by omega) (by omega) (by omega)]; exact m1, fun hl => (m2 hl).sm (e _ (by omega) (by omega) (ns _ (by omega))) (e _ (by omega) (by omega) (ns _ (by omega))) ee e2 hz⟩
theorem RepX.sm (R : RepX x y h A) (e : ∀ a, x ≤ a → a ≤ x + 68 → same h h1 a) (e2 : ∀ a, y ≤ a → a < hZ h → same h h1 a) (hz : hZ h ≤ hZ h1) : RepX x y h1 A := R.scr (KN.of e) (fun a h1 h2 _ => e a h1 h2) e2 hz
/-- the trial day is scratch -/
theorem RepX.tri (R : RepX x y h A) (F : FrG (x + 44) h h1) : RepX x y h1 A :=
  R.scr (F.kn (Or.inr rfl)) (fun a h1 h2 h3 => F.same (by unfold Scr at h3; unfold Out; omega)) (fun a h1 h2 => F.same (by have := R.1; unfold Out; omega)) (by rw [F.2.2.2.1]; exact Nat.le_refl _)
/-- the model's calls leave the class as it is -/
theorem RepX.frM {m : Nat} (R : RepX x y h A) (F : FrM m h h1) (h1' : x + 69 ≤ m) (h2 : m + 37 < y) : RepX x y h1 A := by
  have e : ∀ a, (a < m ∨ m + 37 < a) → same h h1 a := fun a ha => ⟨by rw [F.1], by rw [F.2.1], (F.2.2.2.2.2 a ha).1, (F.2.2.2.2.2 a ha).2, by rw [F.2.2.1]⟩
  exact R.sm (fun a h1 h2 => e a (by omega)) (fun a h1 h2 => e a (by omega)) (by rw [F.2.2.2.1]; exact Nat.le_refl _)
/-- people and river as a day needs them -/
theorem pp_can {t : rT} (V : VT t) {H : rH} (e : H.1 = t) (v : Int32) : PpOK (canP (rvOf H) v) (tN t) := by
  subst e
  obtain ⟨v1, v2, v3, v4, v5, v6, v7, v8, v9, v10, v11, v12, v13, v14⟩ := V
  refine ⟨fun p hp => sdf_01 (leR_01 v9 hp), fun p hp => ?_⟩
  obtain ⟨k, h1, h2⟩ := v10 p hp
  exact ⟨k, by omega, h2⟩
theorem RvX.toY {ρ : Nat} {H : rH} (R : RvX ρ h H.1) (V : VH H) : RvY ρ h (tRoom H.1) (nI (tTrip H.1)) (nI (tBoats H.1)) H.2.1 (vLf (rvOf H)) := by
  obtain ⟨a1, ⟨l, a2⟩, a3, a4, a5, a6, ⟨b1, b2, b3, b4, b5, b6, b7, b8⟩, ⟨c1, c2, c3, c4⟩, a9⟩ := R
  obtain ⟨v1, v2, v3, v4, v5, v6, v7, v8, v9, v10, v11, v12, v13, v14⟩ := id V.1
  have hb : nI (tBoats H.1) = 1 ∨ nI (tBoats H.1) = 2 := by
    rcases v4 with e | e
    · left; rw [e]; decide
    · right; rw [e]; decide
  by_cases h0 : 0 ≤ H.2.1
  · obtain ⟨i, h1, h2⟩ := V.use h0
    have e : vLf (rvOf H) = tLf H.1 i := by
      show (if 0 ≤ H.2.1 then tLf H.1 H.2.1.toNatClampNeg else fun _ => 0) = _
      rw [if_pos h0, h2, nI_clamp (by omega)]
    rw [e]
    obtain ⟨⟨a, b, d1, d2, d3, d4, d5⟩, d6⟩ := a9 i h1
    refine ⟨a1, b1, b2, b3, hb, ⟨by omega, by omega⟩, v14 i h1, ⟨c1, c2, c3, c4, Or.inr ⟨i, a, b, h2, by omega, d1, d2, d3, d4, d5⟩⟩, fun _ hz => d6 (by rw [← h2]; exact hz)⟩
  · have e : vLf (rvOf H) = fun _ => 0 := if_neg h0
    rw [e]
    obtain ⟨u, h1, h2⟩ := V.2.1
    have em : H.2.1 = -1 := by
      cases u with
      | zero => rw [h2]; decide
      | succ u => rw [h2, nI_pred] at h0; exact absurd (nI_pos' (by omega)) h0
    exact ⟨a1, b1, b2, b3, hb, ⟨by omega, by omega⟩, fun _ _ _ => rfl, ⟨c1, c2, c3, c4, Or.inl em⟩, fun hh => absurd hh h0⟩
/-- what a day of the class needs, of a river by sides -/
theorem RvX.need {D ρ : Nat} {v : Int32} {s : Nat} (V : VH H) (s1 : ρ ≠ 0) (G : Rgd x y ρ h) (R : RvX ρ h H.1) (hy : x + 69 ≤ y) (hd : x + 13 ≤ D ∧ D + 12 ≤ x + 68) (k1 : s ≠ 0) (k2 : Out D s) (k3 : hK h s = 12) (k4 : hN h s = 16) (k5 : eqR (tN H.1) (hI h s) (sdf (tKd H.1) (tSd H.1) v)) : ∃ l, DNeed D 16 (tN H.1) ρ (ρ + 1) s (canP (rvOf H) v) l (tRoom H.1) (nI (tTrip H.1)) (nI (tBoats H.1)) (vLf (rvOf H)) h := by
  obtain ⟨g1, g2⟩ := G.out hy hd
  obtain ⟨a1, ⟨l, a2⟩, a3, a4⟩ := id R
  exact ⟨l, ⟨s1, by omega, k1⟩, ⟨g1, fun a h1 h2 => g1 a (by omega) (by omega), k2, g2⟩, a2, ⟨k3, by rw [k4]; exact V.1.1, by rw [k4]; decide, k5⟩, R.toY V, pp_can V.1 rfl _⟩
theorem RvX.need1 {D ρ : Nat} (V : VH H) (s1 : ρ ≠ 0) (G : Rgd x y ρ h) (R : RvX ρ h H.1) (hy : x + 69 ≤ y) (hd : x + 13 ≤ D ∧ D + 12 ≤ x + 68) : ∃ l, DNeed D 16 (tN H.1) ρ (ρ + 1) (ρ + 3) (canP (rvOf H) (-1)) l (tRoom H.1) (nI (tTrip H.1)) (nI (tBoats H.1)) (vLf (rvOf H)) h := by
  obtain ⟨g1, g2⟩ := G.out hy hd
  obtain ⟨a1, ⟨l, a2⟩, a3, a4⟩ := id R
  refine R.need V s1 G hy hd (by omega) (g1 _ (by omega) (by omega)) (a2.1.s 1 rfl) a2.2.1.2.1 (fun p hp => ?_)
  rw [sdf_m1, a3 p hp]
end XREP2
