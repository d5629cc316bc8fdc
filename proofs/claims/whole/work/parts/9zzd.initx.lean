/-! The class's constructor. -/
def A0R : rA := (0, fun _ => 0, (t0R, -1, 0, fun _ => 0), fun _ => false, fun _ => (t0R, -1, 0, fun _ => 0))
section INITX
variable {w : am_W} {d : Nat} {h : am_H} {Q : Option Value → am_H → Prop} {x : Nat}
/-- a mark, new -/
def MkN (x : Nat) (h : am_H) (σ : Nat) : Prop := am_L 7 σ h ∧ hN h (σ + 1) = 30 ∧ hR h σ 1 = x + 1 ∧ hI h σ 2 = -1 ∧ hI h σ 3 = 0 ∧ hI h σ 4 = 0
theorem MkN.sm {h1 : am_H} {σ : Nat} (A : MkN x h σ) (e : ∀ b, σ ≤ b → b ≤ σ + 1 → same h h1 b) : MkN x h1 σ := by
  obtain ⟨a1, a2, a3, a4, a5, a6⟩ := A
  have s := e σ (Nat.le_refl _) (by omega)
  exact ⟨a1.sm (M := 1) (by decide) e, by rw [(e (σ + 1) (by omega) (by omega)).2.1]; exact a2, by rw [s.2.2.2.2]; exact a3, by rw [s.2.2.1]; exact a4, by rw [s.2.2.1]; exact a5, by rw [s.2.2.1]; exact a6⟩
def MI (x : Nat) (h0 h : am_H) (i : Nat) : Prop := hZ h = x + 23 + 2 * i ∧ hS h = hS h0 + 35 * i ∧ (∀ b, b < x + 23 → b ≠ x + 22 → same h0 h b) ∧ hK h (x + 22) = 15 ∧ hN h (x + 22) = 4 ∧ ∀ k, k < i → hR h (x + 22) k = x + 23 + 2 * k ∧ MkN x h (x + 23 + 2 * k)
/-- the object at x gets a part -/
def Sx (g g' : am_H) (x k v z s : Nat) : Prop := (∀ b, b < hZ g → b ≠ x → same g g' b) ∧ hK g' x = hK g x ∧ hI g' x = hI g x ∧ (∀ f, hR g' x f = if f = k then v else hR g x f) ∧ hZ g' = z ∧ hS g' = hS g + s
theorem Sx.of {g g1 g2 g3 : am_H} {ci n c s k z v : Nat} (hv : v = hZ g) (hx : x < v) (e1 : g1 = nO g ci n) (M : Made g1 g2 v c s) (e3 : g3 = sR g2 x k v) (hz : v + c = z) : Sx g g3 x k v z (n + s) := by
  subst hv
  have s1 : ∀ b, b < hZ g → same g g1 b := fun b hb => by rw [e1]; exact nO_same _ _ _ (by omega)
  have s2 : ∀ b, b < hZ g → same g g2 b := fun b hb => (s1 b hb).tr (M.1 b hb)
  have sx := s2 x hx
  refine ⟨fun b hb hn => by rw [e3]; exact (s2 b hb).tr (sR_same _ _ _ _ hn), by rw [e3]; exact sx.1, by rw [e3]; exact sx.2.2.1, fun f => ?_, by rw [e3, ← hz]; exact M.2.1, ?_⟩
  · rw [e3, sR_r, sx.2.2.2.2]
    simp only [true_and]
  · have a1 : hS g1 = hS g + n := by rw [e1]; rfl
    have a2 : hS g3 = hS g2 := by rw [e3]; rfl
    rw [a2, M.2.2, a1]
    omega
theorem c_marks {h0 : am_H} (hk9 : hK h0 x = 9) (hr3 : hR h0 x 3 = x + 22) (q : ∀ h, MI x h0 h 4 → ((nI 4) ≤ nI 4 → Ev w (am_Z w) mX9_init (d + 3) 61 [(0, .ref x), (1, .ref (x + 1)), (2, .int (nI 4))] [] h Q)) : ∀ k i h, i + k = 4 → MI x h0 h i → Ev w (am_Z w) mX9_init (d + 3) 61 [(0, .ref x), (1, .ref (x + 1)), (2, .int (nI i))] [] h Q := by
  intro k
  induction k with
  | zero =>
    intro i h hi M
    have hi : i = 4 := by omega
    subst hi
    exact q h M (Int32.le_refl _)
  | succ k ih =>
    intro i h hi M
    obtain ⟨m1, m2, m3, m4, m5, m6⟩ := M
    have sx := m3 x (by omega) (by omega)
    have r3 : hR h x 3 = x + 22 := by rw [sx.2.2.2.2]; exact hr3
    refine bX9_init_61b ⟨sx.1.trans hk9, by rw [r3]; omega, by rw [r3]; exact m4, fun c => absurd c ?_, fun _ h28 e28 => ?_⟩
    · rw [r3, m5, nI_leI (by decide) (by omega)]; omega
    have z28 : hZ h28 = x + 23 + 2 * i + 1 := by rw [e28]; show hZ h + 1 = _; omega
    have s28 : ∀ b, b < x + 23 + 2 * i → same h h28 b := fun b hb => by rw [e28]; exact nO_same _ _ _ (by omega)
    have nw := nO_new h 7 5
    rw [← e28, m1] at nw
    rw [m1, r3]
    refine c_stateI (d := d + 1) z28 nw.1 nw.2.1 (by omega) (fun h29 M29 l7 n30 r1 i2 i3 i4 => ⟨rfl, ?_⟩)
    have s29 : ∀ b, b < x + 23 + 2 * i → same h h29 b := fun b hb => (s28 b hb).tr (M29.1 b hb)
    have k22 : hK h29 (x + 22) = 15 := (s29 (x + 22) (by omega)).1.trans m4
    have n22 : hN h29 (x + 22) = 4 := (s29 (x + 22) (by omega)).2.1.trans m5
    refine ⟨k22, by rw [n22]; exact vp_in_nI (by omega) (by decide), l7.1, fun h34 e34 => ?_⟩
    rw [nI_clamp (by omega)] at e34
    rw [nI_1]
    have s34 : ∀ b, b ≠ x + 22 → same h29 h34 b := fun b hb => by rw [e34]; exact sR_same _ _ _ _ hb
    refine ih (i + 1) h34 (by omega) ⟨?_, ?_, fun b y1 y2 => ((m3 b y1 y2).tr (s29 b (by omega))).tr (s34 b y2), by rw [e34]; exact k22, by rw [e34]; exact n22, fun j hj => ?_⟩
    · rw [e34]; show hZ h29 = _; rw [M29.2.1]; omega
    · have a1 : hS h28 = hS h + 5 := by rw [e28]; rfl
      rw [e34]; show hS h29 = _; rw [M29.2.2, a1, m2]; omega
    · by_cases c : j = i
      · subst c
        exact ⟨by rw [e34, sR_r, if_pos ⟨rfl, rfl⟩], (show MkN x h29 (x + 23 + 2 * j) from ⟨l7, n30, r1, i2, i3, i4⟩).sm (fun b y1 y2 => s34 b (by omega))⟩
      · obtain ⟨y1, y2⟩ := m6 j (by omega)
        refine ⟨?_, y2.sm (fun b z1 z2 => (s29 b (by omega)).tr (s34 b (by omega)))⟩
        rw [e34, sR_r, if_neg (fun z => c z.2), (s29 (x + 22) (by omega)).2.2.2.2]
        exact y1
end INITX
