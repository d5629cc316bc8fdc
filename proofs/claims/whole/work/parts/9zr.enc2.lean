/-! Words: their letters, their numbers. -/
theorem isL_nI {c : Int32} (h : isL c = true) : ∃ k, 97 ≤ k ∧ k ≤ 122 ∧ c = nI k := by
  unfold isL at h
  rw [Bool.and_eq_true, Bool.not_eq_true', Bool.not_eq_true', decide_eq_false_iff_not, decide_eq_false_iff_not] at h
  obtain ⟨h1, h2⟩ := h
  have hn : ¬ c < 0 := fun z => h1 (Int32.lt_trans z (by decide))
  obtain ⟨j, hj, rfl⟩ := nI_of hn
  rw [show (97 : Int32) = nI 97 by decide, nI_ltI hj (by decide)] at h1
  rw [show (122 : Int32) = nI 122 by decide, nI_ltI (by decide) hj] at h2
  exact ⟨j, by omega, by omega, rfl⟩
def ltr (s : Nat → Int32) (b i : Nat) : Nat := (s (b + i)).toNatClampNeg - 96
theorem ltr_ok {s : Nat → Int32} {b i : Nat} (h : isL (s (b + i)) = true) : 1 ≤ ltr s b i ∧ ltr s b i ≤ 26 ∧ s (b + i) = nI (96 + ltr s b i) := by
  obtain ⟨k, k1, k2, e⟩ := isL_nI h
  unfold ltr
  rw [e, nI_clamp (by omega)]
  refine ⟨by omega, by omega, ?_⟩
  congr 1
  omega
theorem toL {k : Nat} (hk : k < 128) : (nI k).toInt64 = Int64.ofNat k := by
  have : ∀ k : Fin 128, (nI k.1).toInt64 = Int64.ofNat k.1 := by decide +kernel
  exact this ⟨k, hk⟩
theorem wd27_enc {s : Nat → Int32} {b : Nat} : ∀ k, (∀ i, i < k → isL (s (b + i)) = true) → wd27 s b k = Int64.ofNat (encN 27 (ltr s b) k) := by
  intro k
  induction k with
  | zero => intro _; rfl
  | succ k ih =>
    intro h
    obtain ⟨l1, l2, l3⟩ := ltr_ok (h k (by omega))
    rw [wd27, ih (fun i hi => h i (by omega)), l3, toL (by omega), encN, show 96 + ltr s b k = ltr s b k + 96 by omega, Int64.ofNat_add, Int64.ofNat_add, Int64.ofNat_mul, ← Int64.add_assoc]
    exact Int64.add_sub_cancel _ _
theorem kyX_enc {s : Nat → Int32} {n b : Nat} (hn : n ≤ 1000) : ∀ k, b + k ≤ n → (∀ i, i < k → isL (s (b + i)) = true) → kyX s n (nI b) k = Int64.ofNat (encN 32 (ltr s b) k) := by
  intro k
  induction k with
  | zero => intro _ _; rfl
  | succ k ih =>
    intro hb h
    obtain ⟨l1, l2, l3⟩ := ltr_ok (h k (by omega))
    have e : sgA s n (nI b + nI k) - 97 + 1 = nI (ltr s b k) := by
      rw [nI_add, sgA_nI (by omega) (by omega), if_neg (by omega), l3, show (97 : Int32) = nI 96 + 1 by decide, show 96 + ltr s b k = ltr s b k + 96 by omega, ← nI_add, Int32.sub_eq_add_neg, Int32.neg_add, Int32.add_assoc, Int32.add_assoc]
      have : (nI 96 : Int32) + (-nI 96 - 1 + 1) = 0 := by decide
      rw [this, Int32.add_zero]
    rw [kyX, ih (by omega) (fun i hi => h i (by omega)), e, toL (by omega), encN, Int64.ofNat_add, Int64.ofNat_mul]
    rfl
theorem ofN_inj {a b : Nat} (ha : a < 2 ^ 63) (hb : b < 2 ^ 63) : Int64.ofNat a = Int64.ofNat b ↔ a = b := by
  constructor
  · intro h
    have := congrArg Int64.toNatClampNeg h
    rw [Int64.toNatClampNeg_ofNat_of_lt ha, Int64.toNatClampNeg_ofNat_of_lt hb] at this
    exact this
  · intro h; rw [h]
theorem encB {B : Nat} (hB : B = 27 ∨ B = 32) {f : Nat → Nat} {k : Nat} (hk : k ≤ 8) (h : ∀ i, i < k → f i ≤ 26) : encN B f k < 2 ^ 63 := by
  have h1 := encN_lt (B := B) (by omega) k h
  have h2 : B ^ k ≤ B ^ 8 := Nat.pow_le_pow_right (by omega) hk
  have h3 : B ^ 8 < 2 ^ 63 := by rcases hB with e | e <;> subst e <;> decide
  omega
/-- a word's token: its letters -/
theorem tk_letters {s : Nat → Int32} {n b : Nat} (hb : b < n) (hl : isL (s b) = true) : (∀ i, i < tkE s n b - b → isL (s (b + i)) = true) ∧ tkE s n b ≤ n ∧ tkE s n b = spn isL s (n - b) b := by
  have eE : tkE s n b = spn isL s (n - b) b := by unfold tkE; rw [if_neg (by omega), if_pos hl]
  refine ⟨fun i hi => spn_all isL s (n - b) b (b + i) (by omega) (by omega), (tkE_le (by omega)).2, eE⟩
/-- a token of kind 3 -/
theorem tk_3 {s : Nat → Int32} {n b : Nat} (h : tkC s n b = 3) : b < n ∧ isL (s b) = true ∧ tkE s n b - b ≤ 8 := by
  unfold tkC at h
  by_cases c : n ≤ b
  · rw [if_pos c] at h; exact absurd h (by decide)
  rw [if_neg c] at h
  by_cases c1 : isL (s b) = true
  · rw [if_pos c1] at h
    by_cases c2 : tkE s n b - b ≤ 8
    · exact ⟨by omega, c1, c2⟩
    · rw [if_neg c2] at h; exact absurd h (by decide)
  rw [if_neg c1] at h
  by_cases c2 : isD (s b) = true
  · rw [if_pos c2] at h
    split at h <;> exact absurd h (by decide)
  rw [if_neg c2] at h
  by_cases c3 : isG (s b) = true
  · rw [if_pos c3] at h
    rcases isG_or c3 with e | e | e | e | e | e | e | e <;> rw [e] at h <;> exact absurd h (by decide)
  · rw [if_neg c3] at h; exact absurd h (by decide)
theorem ky_eq {s : Nat → Int32} {n a b : Nat} (hn : n ≤ 1000) (ha : tkC s n a = 3) (hb : tkC s n b = 3) : kyT s n a = kyT s n b ↔ tkW s n a = tkW s n b := by
  have main : ∀ a, tkC s n a = 3 → ∃ k, k ≤ 8 ∧ (∀ i, i < k → 1 ≤ ltr s a i ∧ ltr s a i ≤ 26) ∧ kyT s n a = Int64.ofNat (encN 32 (ltr s a) k) ∧ tkW s n a = Int64.ofNat (encN 27 (ltr s a) k) := by
    intro a ha
    obtain ⟨a1, a2, a3⟩ := tk_3 ha
    obtain ⟨l1, l2, l3⟩ := tk_letters a1 a2
    refine ⟨tkE s n a - a, a3, fun i hi => ⟨(ltr_ok (l1 i hi)).1, (ltr_ok (l1 i hi)).2.1⟩, ?_, ?_⟩
    · unfold kyT
      rw [rnl_spn (by decide) (by omega) hn 8 0 (by decide) (by rw [← l3]; have := (tkE_le (s := s) (n := n) (b := a) (by omega)).1; omega), ← l3, show min (0 + 8) (tkE s n a - a) = tkE s n a - a by omega]
      exact kyX_enc hn _ (by omega) l1
    · unfold tkW
      rw [if_neg (by omega), if_pos a2, show min (tkE s n a - a) 8 = tkE s n a - a by omega]
      exact wd27_enc _ l1
  obtain ⟨k, k1, k2, k3, k4⟩ := main a ha
  obtain ⟨l, l1, l2, l3, l4⟩ := main b hb
  rw [k3, k4, l3, l4, ofN_inj (encB (Or.inr rfl) k1 (fun i hi => (k2 i hi).2)) (encB (Or.inr rfl) l1 (fun i hi => (l2 i hi).2)), ofN_inj (encB (Or.inl rfl) k1 (fun i hi => (k2 i hi).2)) (encB (Or.inl rfl) l1 (fun i hi => (l2 i hi).2))]
  constructor
  · intro e
    obtain ⟨x1, x2⟩ := encN_inj (Or.inr rfl) k l k2 l2 e
    subst x1
    exact encN_cg k x2
  · intro e
    obtain ⟨x1, x2⟩ := encN_inj (Or.inl rfl) k l k2 l2 e
    subst x1
    exact encN_cg k x2
