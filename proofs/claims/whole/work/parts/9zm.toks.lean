/-! How many tokens there are; what a number's token says. -/
theorem tkE_gt {s : Nat → Int32} {n b : Nat} (h : b < n) : b < tkE s n b := by
  unfold tkE
  rw [if_neg (by omega)]
  have g : ∀ P : Int32 → Bool, P (s b) = true → b < spn P s (n - b) b := fun P hp => by
    rw [show n - b = (n - b - 1) + 1 by omega, spn, if_pos hp]
    have := (spn_le P s (n - b - 1) (b + 1)).1
    omega
  split
  · rename_i c; exact g isL c
  · split
    · rename_i c; exact g isD c
    · omega
theorem bgn_s {s : Nat → Int32} {n i : Nat} : (bgn s n i < n → bgn s n i < bgn s n (i + 1)) ∧ (bgn s n i = n → bgn s n (i + 1) = n) := by
  have e : bgn s n (i + 1) = tkB s n (tkE s n (bgn s n i)) := rfl
  rw [e]
  have h1 := bgn_le (s := s) (n := n) i
  have h2 := (tkE_le (s := s) h1).2
  have h3 := tkB_le (s := s) h2
  refine ⟨fun c => ?_, fun c => ?_⟩
  · have := tkE_gt (s := s) c; omega
  · have h4 : tkE s n n = n := by unfold tkE; rw [if_pos (Nat.le_refl _)]
    rw [c] at h3 ⊢
    rw [h4] at h3 ⊢
    omega
theorem bgn_end {s : Nat → Int32} {n N : Nat} (h : bgn s n N = n) : ∀ i, N ≤ i → bgn s n i = n := by
  intro i hi
  obtain ⟨k, rfl⟩ := Nat.exists_eq_add_of_le hi
  clear hi
  induction k with
  | zero => exact h
  | succ k ih => exact (bgn_s (i := N + k)).2 ih
theorem ntk (s : Nat → Int32) (n : Nat) : ∃ N, N ≤ n ∧ (∀ i, i < N → bgn s n i < n) ∧ ∀ i, N ≤ i → bgn s n i = n := by
  have main : ∀ k i, n ≤ bgn s n i + k → (∀ j, j < i → bgn s n j < n) → ∃ N, N ≤ i + k ∧ (∀ j, j < N → bgn s n j < n) ∧ bgn s n N = n := by
    intro k
    induction k with
    | zero => intro i h1 h2; exact ⟨i, Nat.le_refl _, h2, by have := bgn_le (s := s) (n := n) i; omega⟩
    | succ k ih =>
      intro i h1 h2
      by_cases c : bgn s n i < n
      · have := (bgn_s (s := s) (n := n) (i := i)).1 c
        obtain ⟨N, x1, x2, x3⟩ := ih (i + 1) (by omega) (fun j hj => by
          by_cases e : j = i
          · rw [e]; exact c
          · exact h2 j (by omega))
        exact ⟨N, by omega, x2, x3⟩
      · exact ⟨i, by omega, h2, by have := bgn_le (s := s) (n := n) i; omega⟩
  obtain ⟨N, x1, x2, x3⟩ := main n 0 (by omega) (fun j hj => by omega)
  exact ⟨N, by omega, x2, bgn_end x3⟩
theorem tKD_z {s : Nat → Int32} {n i : Nat} : tKD s n i = 0 ↔ bgn s n i = n := by
  have hb := bgn_le (s := s) (n := n) i
  unfold tKD
  constructor
  · intro h
    rw [← (tk_small (s := s) (n := n) (b := bgn s n i)).1] at h
    unfold tkK at h
    by_cases c : n ≤ bgn s n i
    · omega
    · rw [if_neg c] at h
      repeat' split at h
      all_goals exact absurd h (by decide)
  · intro h
    unfold tkC
    rw [if_pos (by omega)]
theorem isD_nI {c : Int32} (h : isD c = true) : ∃ k, 48 ≤ k ∧ k ≤ 57 ∧ c = nI k := by
  unfold isD at h
  rw [Bool.and_eq_true, Bool.not_eq_true', Bool.not_eq_true', decide_eq_false_iff_not, decide_eq_false_iff_not] at h
  obtain ⟨h1, h2⟩ := h
  have hn : ¬ c < 0 := fun z => h1 (Int32.lt_trans z (by decide))
  obtain ⟨j, hj, rfl⟩ := nI_of hn
  rw [show (48 : Int32) = nI 48 by decide, nI_ltI hj (by decide)] at h1
  rw [show (57 : Int32) = nI 57 by decide, nI_ltI (by decide) hj] at h2
  exact ⟨j, by omega, by omega, rfl⟩
theorem nm10_nI {s : Nat → Int32} {b : Nat} : ∀ k, (∀ j, b ≤ j → j < b + k → isD (s j) = true) → ∃ v, v < 10 ^ k ∧ nm10 s b k = nI v := by
  intro k
  induction k with
  | zero => intro _; exact ⟨0, by decide, rfl⟩
  | succ k ih =>
    intro h
    obtain ⟨v, v1, v2⟩ := ih (fun j h1 h2 => h j h1 (by omega))
    obtain ⟨c, c1, c2, c3⟩ := isD_nI (h (b + k) (by omega) (by omega))
    refine ⟨v * 10 + (c - 48), by rw [Nat.pow_succ]; omega, ?_⟩
    rw [nm10, v2, c3, show (10 : Int32) = nI 10 by decide, pk_mul, nI_add, show (48 : Int32) = nI 48 by decide, nI_sub (by omega)]
    congr 1
    omega
theorem tNV_nI {s : Nat → Int32} {n i : Nat} (h : tKD s n i = 2) : ∃ k, k ≤ 9999 ∧ tNV s n i = nI k := by
  have h := (tk_small (s := s) (n := n) (b := bgn s n i)).2.mpr h
  unfold tNV tkV
  unfold tkK at h
  by_cases c : n ≤ bgn s n i
  · rw [if_pos c] at h; exact absurd h (by decide)
  rw [if_neg c] at h ⊢
  by_cases c1 : isL (s (bgn s n i)) = true
  · rw [if_pos c1] at h
    split at h <;> exact absurd h (by decide)
  rw [if_neg c1] at h ⊢
  by_cases c2 : isD (s (bgn s n i)) = true
  · rw [if_pos c2] at h ⊢
    have eE : tkE s n (bgn s n i) = spn isD s (n - bgn s n i) (bgn s n i) := by unfold tkE; rw [if_neg c, if_neg c1, if_pos c2]
    obtain ⟨v, v1, v2⟩ := nm10_nI (s := s) (b := bgn s n i) (min (tkE s n (bgn s n i) - bgn s n i) 4) (fun j h1 h2 => spn_all isD s (n - bgn s n i) (bgn s n i) j h1 (by rw [eE] at h2; omega))
    refine ⟨v, ?_, v2⟩
    have : (10 : Nat) ^ (min (tkE s n (bgn s n i) - bgn s n i) 4) ≤ 10 ^ 4 := Nat.pow_le_pow_right (by decide) (Nat.min_le_right _ _)
    omega
  · rw [if_neg c2] at h
    split at h <;> exact absurd h (by decide)
