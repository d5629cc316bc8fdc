/-! The class's numbers and names are the reference's. -/
theorem rnl_spn {P : Int32 → Bool} (h32 : P 32 = false) {s : Nat → Int32} {n b : Nat} (hb : b ≤ n) (hn : n ≤ 1000) : ∀ k j, k ≤ 8 → b + j ≤ spn P s (n - b) b → rnl P s n (nI b) k j = min (j + k) (spn P s (n - b) b - b) := by
  have hle := spn_le P s (n - b) b
  intro k
  induction k with
  | zero => intro j _ hj; rw [rnl]; omega
  | succ k ih =>
    intro j hk hj
    rw [rnl, nI_add, sgA_nI (by omega) (by omega)]
    by_cases c : b + j < spn P s (n - b) b
    · have hp := spn_all P s (n - b) b (b + j) (by omega) c
      rw [if_neg (show ¬ n ≤ b + j by omega), if_pos hp, ih (j + 1) (by omega) (by omega)]
      omega
    · have e : b + j = spn P s (n - b) b := by omega
      have hf : ¬ P (if n ≤ b + j then 32 else s (b + j)) = true := by
        by_cases c2 : n ≤ b + j
        · rw [if_pos c2, h32]; decide
        · rw [if_neg c2, e, spn_end P s (n - b) b (by omega)]; decide
      rw [if_neg hf]
      omega
theorem nvX_nm {s : Nat → Int32} {n b : Nat} (hn : n ≤ 1000) : ∀ k, b + k ≤ n → nvX s n (nI b) k = nm10 s b k := by
  intro k
  induction k with
  | zero => intro _; rfl
  | succ k ih =>
    intro hk
    rw [nvX, nm10, ih (by omega), nI_add, sgA_nI (by omega) (by omega), if_neg (by omega), Int32.sub_eq_add_neg, Int32.sub_eq_add_neg, Int32.add_assoc]
/-- the value of a number -/
theorem nvT_tkV {s : Nat → Int32} {n b : Nat} (hn : n ≤ 1000) (hb : b < n) (h1 : isL (s b) = false) (h2 : isD (s b) = true) : nvT s n b = tkV s n b := by
  have hle := spn_le isD s (n - b) b
  have e : tkE s n b = spn isD s (n - b) b := by
    unfold tkE
    rw [if_neg (by omega), if_neg (by rw [h1]; decide), if_pos h2]
  rw [nvT, rnl_spn (by decide) (by omega) hn 4 0 (by decide) hle.1, tkV, if_neg (by omega), if_neg (by rw [h1]; decide), if_pos h2, e, nvX_nm hn _ (by omega)]
  congr 1
  omega
