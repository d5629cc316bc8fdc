/-! The class's tape: signs, numbers, keys; its parser: numbers. -/
def sgA (s : Nat → Int32) (n : Nat) (p : Int32) : Int32 := if p < 0 then 32 else if nI n ≤ p then 32 else s p.toNatClampNeg
theorem sgA_nI {s : Nat → Int32} {n p : Nat} (hp : p < 2 ^ 31) (hn : n < 2 ^ 31) : sgA s n (nI p) = if n ≤ p then 32 else s p := by
  rw [sgA, if_neg (nI_pos hp), nI_clamp hp]
  by_cases c : n ≤ p
  · rw [if_pos c, if_pos (by rw [nI_leI hn hp]; exact c)]
  · rw [if_neg c, if_neg (by rw [nI_leI hn hp]; exact c)]
section XPARSE2
variable {w : am_W} {d : Nat} {h : am_H} {Q : Option Value → am_H → Prop} {x ρ n N : Nat} {s kd pc : Nat → Int32}
theorem nar_k {k : Nat} (hk : k ≤ 126) : narrow .char (.int (nI k)) = .int (nI k) := by
  have : ∀ k : Fin 127, narrow .char (.int (nI k.1)) = .int (nI k.1) := by decide
  exact this ⟨k, by omega⟩
theorem c_signAtX {p : Int32} (L8 : am_L 8 (x + 13) h) (hN' : hN h (x + 14) = 1000) (T : TpX x h (n, s)) (q : Q (some (.int (sgA s n p))) h) : EvM w mX8_signAt d [.ref (x + 13), .int p] h Q := by
  obtain ⟨t1, t2, t3, t4⟩ := T
  have t1 : hI h (x + 13) 3 = nI n := t1
  have t3 : n ≤ 1000 := t3
  unfold sgA at q
  refine bX8_signAt_0 ⟨fun c => ⟨nar_k (k := 32) (by decide), ?_⟩, fun c => ⟨L8, fun c2 => ⟨nar_k (k := 32) (by decide), ?_⟩, fun c2 => ?_⟩⟩
  · rw [if_pos c] at q; exact q
  · rw [t1] at c2; rw [if_neg c, if_pos c2] at q; exact q
  · rw [t1] at c2
    rw [if_neg c, if_neg c2] at q
    rw [show hN h (x + 13 + 1) = 1000 from hN']
    obtain ⟨j, hj, rfl⟩ := nI_of c
    rw [nI_leI (by omega) hj] at c2
    rw [nI_clamp hj] at q
    refine ⟨fun c3 => absurd c3 (by rw [nI_leI (by decide) hj]; omega), fun c3 => ⟨in_of c c3 (by decide), ?_⟩⟩
    rw [nI_clamp hj, show hI h (x + 13 + 1) j = s j from t2 j (by show j < n; omega)]
    refine ⟨?_, q⟩
    rcases t4 j (by show j < n; omega) with e | ⟨k, k1, k2, e⟩
    · rw [show s j = (10 : Int32) from e]; exact nar_k (k := 10) (by decide)
    · rw [show s j = nI k from e]; exact nar_k k2
theorem c_isLetter {c : Int32} (q : Q (some (.int (if isL c then 1 else 0))) h) : EvM w mX8_isLetter d [.int c] h Q := by
  unfold isL at q
  refine bX8_isLetter_0 ⟨fun c1 => ?_, fun c1 => ⟨fun c2 => ?_, fun c2 => ?_⟩⟩
  · rw [if_neg (by simp [c1])] at q; exact q
  · rw [if_neg (by simp [c2])] at q; exact q
  · rw [if_pos (by simp only [c1, c2, decide_false]; rfl)] at q; exact q
theorem c_isDigit {c : Int32} (q : Q (some (.int (if isD c then 1 else 0))) h) : EvM w mX8_isDigit d [.int c] h Q := by
  unfold isD at q
  refine bX8_isDigit_0 ⟨fun c1 => ?_, fun c1 => ⟨fun c2 => ?_, fun c2 => ?_⟩⟩
  · rw [if_neg (by simp [c1])] at q; exact q
  · rw [if_neg (by simp [c2])] at q; exact q
  · rw [if_pos (by simp only [c1, c2, decide_false]; rfl)] at q; exact q
/-- how many places from p on, k at most, hold P -/
def rnl (P : Int32 → Bool) (s : Nat → Int32) (n : Nat) (b : Int32) : Nat → Nat → Nat
  | 0, j => j
  | k + 1, j => if P (sgA s n (b + nI j)) then rnl P s n b k (j + 1) else j
def nvX (s : Nat → Int32) (n : Nat) (b : Int32) : Nat → Int32
  | 0 => 0
  | k + 1 => nvX s n b k * 10 + (sgA s n (b + nI k) - 48)
def kyX (s : Nat → Int32) (n : Nat) (b : Int32) : Nat → Int64
  | 0 => 0
  | k + 1 => kyX s n b k * 32 + Int32.toInt64 (sgA s n (b + nI k) - 97 + 1)
theorem c_numberX {t : Int32} (X : XL x h) (T : TpX x h (n, s)) (q : ∀ v, (∀ p, gv 1001 (hI h (x + 16)) t = nI p → p ≤ 1000 → v = nvX s n (nI p) (rnl isD s n (nI p) 4 0)) → Q (some (.int v)) h) : EvM w mX8_numberValue (d + 1) [.ref (x + 13), .int t] h Q := by
  have L8 : am_L 8 (x + 13) h := X.2.1
  have n14 : hN h (x + 14) = 1000 := X.2.2.1.1
  have n16 : hN h (x + 13 + 3) = 1001 := X.2.2.1.2.2
  refine bX8_numberValue_0 ⟨L8, c_get (am_L.s L8 2 rfl) (by rw [n16]; decide) ⟨_, rfl, ?_⟩⟩
  rw [n16]
  change ∀ v, (∀ p, gv 1001 (hI h (x + 13 + 3)) t = nI p → p ≤ 1000 → v = nvX s n (nI p) (rnl isD s n (nI p) 4 0)) → Q (some (.int v)) h at q
  generalize gv 1001 (hI h (x + 13 + 3)) t = b at q ⊢
  have loop : ∀ k j, j + k = 4 → rnl isD s n b 4 0 = rnl isD s n b k j → Ev w (am_Z w) mX8_numberValue (d + 1) 14 [(0, .ref (x + 13)), (2, .int b), (3, .int (nvX s n b j)), (4, .int (b + nI j))] [] h Q := by
    intro k
    induction k with
    | zero =>
      intro j hj e
      have hj : j = 4 := by omega
      subst hj
      refine bX8_numberValue_14 ⟨fun _ => q _ (fun p hp _ => ?_), fun c => absurd (Int32.le_refl _) c⟩
      rw [← hp, e, rnl]
    | succ k ih =>
      intro j hj e
      have er : rnl isD s n b (k + 1) j = if isD (sgA s n (b + nI j)) then rnl isD s n b k (j + 1) else j := rfl
      rw [er] at e
      refine bX8_numberValue_14 ⟨fun c => q _ (fun p hp hp2 => ?_), fun c => ⟨L8, c_signAtX L8 n14 T ⟨_, rfl, c_isDigit ⟨_, rfl, fun c2 => q _ (fun p hp _ => ?_), fun c2 => ⟨L8, c_signAtX L8 n14 T ⟨_, rfl, ?_⟩⟩⟩⟩⟩⟩
      · rw [hp, show (4 : Int32) = nI 4 by decide, nI_add, nI_add, nI_leI (by omega) (by omega)] at c
        omega
      · rw [if_neg (fun y => by rw [if_pos y] at c2; exact absurd c2 (by decide))] at e
        rw [← hp, e]
      · rw [if_pos (Decidable.byContradiction (fun y => c2 (if_neg y)))] at e
        have := ih (j + 1) (by omega) e
        rw [Int32.add_assoc, nI_1]
        exact this
  have := loop 4 0 rfl rfl
  rw [show b + nI 0 = b from Int32.add_zero b] at this
  exact this
theorem c_keyX {t : Int32} (X : XL x h) (T : TpX x h (n, s)) (q : ∀ v, (∀ p, gv 1001 (hI h (x + 16)) t = nI p → p ≤ 1000 → v = kyX s n (nI p) (rnl isL s n (nI p) 8 0)) → Q (some (.long v)) h) : EvM w mX8_nameKey (d + 1) [.ref (x + 13), .int t] h Q := by
  have L8 : am_L 8 (x + 13) h := X.2.1
  have n14 : hN h (x + 14) = 1000 := X.2.2.1.1
  have n16 : hN h (x + 13 + 3) = 1001 := X.2.2.1.2.2
  refine bX8_nameKey_0 ⟨L8, c_get (am_L.s L8 2 rfl) (by rw [n16]; decide) ⟨_, rfl, ?_⟩⟩
  rw [n16]
  change ∀ v, (∀ p, gv 1001 (hI h (x + 13 + 3)) t = nI p → p ≤ 1000 → v = kyX s n (nI p) (rnl isL s n (nI p) 8 0)) → Q (some (.long v)) h at q
  generalize gv 1001 (hI h (x + 13 + 3)) t = b at q ⊢
  have loop : ∀ k j, j + k = 8 → rnl isL s n b 8 0 = rnl isL s n b k j → Ev w (am_Z w) mX8_nameKey (d + 1) 14 [(0, .ref (x + 13)), (2, .int b), (3, .long (kyX s n b j)), (5, .int (b + nI j))] [] h Q := by
    intro k
    induction k with
    | zero =>
      intro j hj e
      have hj : j = 8 := by omega
      subst hj
      refine bX8_nameKey_14 ⟨fun _ => q _ (fun p hp _ => ?_), fun c => absurd (Int32.le_refl _) c⟩
      rw [← hp, e, rnl]
    | succ k ih =>
      intro j hj e
      have er : rnl isL s n b (k + 1) j = if isL (sgA s n (b + nI j)) then rnl isL s n b k (j + 1) else j := rfl
      rw [er] at e
      refine bX8_nameKey_14 ⟨fun c => q _ (fun p hp hp2 => ?_), fun c => ⟨L8, c_signAtX L8 n14 T ⟨_, rfl, c_isLetter ⟨_, rfl, fun c2 => q _ (fun p hp _ => ?_), fun c2 => ⟨L8, c_signAtX L8 n14 T ⟨_, rfl, ?_⟩⟩⟩⟩⟩⟩
      · rw [hp, show (8 : Int32) = nI 8 by decide, nI_add, nI_add, nI_leI (by omega) (by omega)] at c
        omega
      · rw [if_neg (fun y => by rw [if_pos y] at c2; exact absurd c2 (by decide))] at e
        rw [← hp, e]
      · rw [if_pos (Decidable.byContradiction (fun y => c2 (if_neg y)))] at e
        have := ih (j + 1) (by omega) e
        rw [Int32.add_assoc, nI_1]
        exact this
  have := loop 8 0 rfl rfl
  rw [show b + nI 0 = b from Int32.add_zero b] at this
  exact this
end XPARSE2
