/-! The class and the reference read with the same numbers and names. -/
theorem nvT_all {s : Nat → Int32} {n : Nat} (hn : n ≤ 1000) {b : Nat} (hb : b ≤ n) : nvT s n b = tkV s n b := by
  by_cases c : n ≤ b
  · unfold nvT tkV
    rw [if_pos c]
    have : rnl isD s n (nI b) 4 0 = 0 := by
      show (if isD (sgA s n (nI b + nI 0)) then rnl isD s n (nI b) 3 1 else 0) = 0
      rw [nI_add, sgA_nI (by omega) (by omega), if_pos (show n ≤ b + 0 by omega), if_neg (by decide)]
    rw [this]
    rfl
  · by_cases c1 : isD (s b) = true
    · have c2 : isL (s b) = false := by
        obtain ⟨k, k1, k2, e⟩ := isD_nI c1
        cases z : isL (s b) with
        | false => rfl
        | true =>
          obtain ⟨k', k3, k4, e'⟩ := isL_nI z
          rw [e, nI_eq (by omega) (by omega)] at e'
          omega
      exact nvT_tkV hn (by omega) c2 c1
    · have h1 : nvT s n b = 0 := by
        unfold nvT
        have : rnl isD s n (nI b) 4 0 = 0 := by
          show (if isD (sgA s n (nI b + nI 0)) then rnl isD s n (nI b) 3 1 else 0) = 0
          rw [nI_add, sgA_nI (by omega) (by omega), if_neg (show ¬ n ≤ b + 0 by omega), if_neg (by rw [Nat.add_zero]; exact c1)]
        rw [this]
        rfl
      rw [h1]
      unfold tkV
      rw [if_neg c]
      by_cases c3 : isL (s b) = true
      · rw [if_pos c3]
      · rw [if_neg c3, if_neg c1]
theorem dup_ky {ky ky' : Nat → Int64} {nm : Nat → Nat} {i : Nat} : ∀ t, (∀ j, j < t → (ky (nm j) = ky i ↔ ky' (nm j) = ky' i)) → dup ky nm i t = dup ky' nm i t := by
  intro t
  induction t with
  | zero => intro _; rfl
  | succ t ih =>
    intro h
    rw [dup, dup, ih (fun j hj => h j (by omega))]
    have := h t (by omega)
    simp only [this]
section SAME
variable {kd pc nv : Nat → Int32} {ky ky' : Nat → Int64} {K N i : Nat} {bg : Nat → Nat} {D : LD}
theorem pLn_ky (hky : ∀ a b, kd a = 3 → kd b = 3 → (ky a = ky b ↔ ky' a = ky' b)) (V : VD kd D i) : pLn kd pc nv ky K (0, i) D = pLn kd pc nv ky' K (0, i) D := by
  have e : ∀ S : P2, nme kd pc ky D.2.1 (tN D.2.2.1) S = nme kd pc ky' D.2.1 (tN D.2.2.1) S := fun S => by
    unfold nme
    by_cases c : kd S.2 = 3
    · rw [if_pos c, if_pos c, dup_ky _ (fun j hj => hky _ _ (V.2.2.1 j hj) c)]
    · rw [if_neg c, if_neg c]
  unfold pLn perP
  rw [e]
theorem pAll_ky (hky : ∀ a b, kd a = 3 → kd b = 3 → (ky a = ky b ↔ ky' a = ky' b)) (hB : ∀ M, BgO M pc bg) (hzz : ∀ i, N ≤ i → kd i = 0) (hK : N ≤ K) (hnv : ∀ i, kd i = 2 → ∃ k, k ≤ 9999 ∧ nv i = nI k) : ∀ k i D, VD kd D i → pAll kd pc nv ky K k (0, i) D = pAll kd pc nv ky' K k (0, i) D := by
  intro k
  induction k with
  | zero => intro i D _; rfl
  | succ k ih =>
    intro i D V
    rw [pAll, pAll, pLn_ky hky V]
    by_cases c : ((0, i) : P2).1 = 0 ∧ ¬ kd ((0, i) : P2).2 = 0
    · rw [if_pos c, if_pos c]
      have O := pLn_ok (ky := ky') (nv := nv) hB hzz hK hnv V
      by_cases z : (pLn kd pc nv ky' K (0, i) D).1.1 = 0
      · obtain ⟨e, o1, o2, o3, o4⟩ := O z
        rw [o1]
        exact ih (e + 1) _ o4
      · rw [pAll_d (fun y => z y.1), pAll_d (fun y => z y.1)]
    · rw [if_neg c, if_neg c]
end SAME
