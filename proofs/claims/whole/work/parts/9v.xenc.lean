/-! Words by numbers: no two words have the same. -/
def encN (B : Nat) (f : Nat → Nat) : Nat → Nat
  | 0 => 0
  | k + 1 => encN B f k * B + f k
theorem encN_inj {B : Nat} (hB : B = 27 ∨ B = 32) {f g : Nat → Nat} : ∀ k l, (∀ i, i < k → 1 ≤ f i ∧ f i ≤ 26) → (∀ i, i < l → 1 ≤ g i ∧ g i ≤ 26) → encN B f k = encN B g l → k = l ∧ ∀ i, i < k → f i = g i := by
  intro k
  induction k with
  | zero =>
    intro l _ hg e
    cases l with
    | zero => exact ⟨rfl, fun i hi => by omega⟩
    | succ l =>
      have := hg l (by omega)
      rw [encN, encN] at e
      omega
  | succ k ih =>
    intro l hf hg e
    have h1 := hf k (by omega)
    cases l with
    | zero =>
      rw [encN, encN] at e
      omega
    | succ l =>
      have h2 := hg l (by omega)
      rw [encN, encN] at e
      have e2 : encN B f k = encN B g l ∧ f k = g l := by
        rcases hB with rfl | rfl <;> omega
      obtain ⟨a, b⟩ := ih l (fun i hi => hf i (by omega)) (fun i hi => hg i (by omega)) e2.1
      subst a
      refine ⟨rfl, fun i hi => ?_⟩
      by_cases c : i = k
      · rw [c]; exact e2.2
      · exact b i (by omega)
theorem encN_cg {B : Nat} {f g : Nat → Nat} : ∀ k, (∀ i, i < k → f i = g i) → encN B f k = encN B g k := by
  intro k
  induction k with
  | zero => intro _; rfl
  | succ k ih => intro h; rw [encN, encN, ih (fun i hi => h i (by omega)), h k (by omega)]
theorem encN_lt {B : Nat} (hB : 27 ≤ B) {f : Nat → Nat} : ∀ k, (∀ i, i < k → f i ≤ 26) → encN B f k < B ^ k := by
  intro k
  induction k with
  | zero => intro _; exact Nat.zero_lt_one
  | succ k ih =>
    intro h
    have h1 := ih (fun i hi => h i (by omega))
    have h2 := h k (by omega)
    rw [encN, Nat.pow_succ]
    calc encN B f k * B + f k < encN B f k * B + B := by omega
      _ = (encN B f k + 1) * B := by rw [Nat.add_mul, Nat.one_mul]
      _ ≤ B ^ k * B := Nat.mul_le_mul_right _ h1
