/-! While a fault is not set, each small step went one token on. -/
section PAL
variable {N : Nat} {kd pc : Nat → Int32} {bg : Nat → Nat} {S : P2}
theorem flt_no (B : BgO N pc bg) (k : Nat) (h1 : 1 ≤ k) (h2 : k ≤ 15) {i : Nat} (hi : i ≤ N) : ¬ nI k + 16 * pc i = 0 := by
  rw [(B i hi).1]
  exact flt_ne h1 h2 (B i hi).2
theorem xpt_al (B : BgO N pc bg) (hS : S.1 = 0 → S.2 ≤ N) {k : Int32} (z : (xpt kd pc k S).1 = 0) : S.1 = 0 ∧ kd S.2 = k ∧ xpt kd pc k S = (0, S.2 + 1) := by
  by_cases a : S.1 = 0
  · rw [xpt, if_pos a] at z ⊢
    by_cases c : kd S.2 = k
    · rw [if_pos c]; exact ⟨a, c, rfl⟩
    · rw [if_neg c] at z
      exact absurd z (flt_no B 1 (by decide) (by decide) (hS a))
  · rw [xpt, if_neg a] at z; exact absurd z a
theorem num_al (B : BgO N pc bg) (hS : S.1 = 0 → S.2 ≤ N) {nv : Nat → Int32} {lo hi : Int32} (z : (num kd pc nv lo hi S).1 = 0) : S.1 = 0 ∧ kd S.2 = 2 ∧ ¬ nv S.2 < lo ∧ nv S.2 ≤ hi ∧ num kd pc nv lo hi S = (0, S.2 + 1) := by
  by_cases a : S.1 = 0
  · rw [num, if_pos a] at z ⊢
    by_cases c : kd S.2 = 2
    · rw [if_pos c] at z ⊢
      by_cases c2 : nv S.2 < lo
      · rw [if_pos c2] at z
        exact absurd z (flt_no B 4 (by decide) (by decide) (hS a))
      · rw [if_neg c2] at z ⊢
        by_cases c3 : nv S.2 ≤ hi
        · rw [if_pos c3]; exact ⟨a, c, c2, c3, rfl⟩
        · rw [if_neg c3] at z
          exact absurd z (flt_no B 4 (by decide) (by decide) (hS a))
    · rw [if_neg c] at z
      exact absurd z (flt_no B 1 (by decide) (by decide) (hS a))
  · rw [num, if_neg a] at z; exact absurd z a
theorem sdw_al (B : BgO N pc bg) (hS : S.1 = 0 → S.2 ≤ N) (z : (sdw kd pc S).1 = 0) : S.1 = 0 ∧ (kd S.2 = 75 ∨ kd S.2 = 76) ∧ sdw kd pc S = (0, S.2 + 1) := by
  by_cases a : S.1 = 0
  · rw [sdw, if_pos a] at z ⊢
    by_cases c : kd S.2 = 75
    · rw [if_pos c]; exact ⟨a, Or.inl c, rfl⟩
    · rw [if_neg c] at z ⊢
      by_cases c2 : kd S.2 = 76
      · rw [if_pos c2]; exact ⟨a, Or.inr c2, rfl⟩
      · rw [if_neg c2] at z
        exact absurd z (flt_no B 1 (by decide) (by decide) (hS a))
  · rw [sdw, if_neg a] at z; exact absurd z a
theorem kwd_al (B : BgO N pc bg) (hS : S.1 = 0 → S.2 ≤ N) {ch : Nat} (z : (kwd kd pc ch S).1 = 0) : S.1 = 0 ∧ (¬ kd S.2 < 81 ∧ kd S.2 ≤ 86 ∧ (kd S.2 = 86 → ch < 8)) ∧ kwd kd pc ch S = (0, S.2 + 1) := by
  by_cases a : S.1 = 0
  · rw [kwd, if_pos a] at z ⊢
    by_cases c : kd S.2 < 81
    · rw [if_pos c] at z
      exact absurd z (flt_no B 1 (by decide) (by decide) (hS a))
    · rw [if_neg c] at z ⊢
      by_cases c2 : kd S.2 ≤ 86
      · rw [if_pos c2] at z ⊢
        by_cases c3 : kd S.2 = 86 ∧ 8 ≤ ch
        · rw [if_pos c3] at z
          exact absurd z (flt_no B 5 (by decide) (by decide) (hS a))
        · rw [if_neg c3]
          exact ⟨a, ⟨c, c2, fun e => Nat.lt_of_not_le (fun y => c3 ⟨e, y⟩)⟩, rfl⟩
      · rw [if_neg c2] at z
        exact absurd z (flt_no B 1 (by decide) (by decide) (hS a))
  · rw [kwd, if_neg a] at z; exact absurd z a
theorem nme_al (B : BgO N pc bg) (hS : S.1 = 0 → S.2 ≤ N) {ky : Nat → Int64} {nm : Nat → Nat} {t : Nat} (z : (nme kd pc ky nm t S).1 = 0) : S.1 = 0 ∧ (kd S.2 = 3 ∧ dup ky nm S.2 t = false) ∧ nme kd pc ky nm t S = (0, S.2 + 1) := by
  by_cases a : S.1 = 0
  · rw [nme, if_pos a] at z ⊢
    by_cases c : kd S.2 = 3
    · rw [if_pos c] at z ⊢
      by_cases c2 : dup ky nm S.2 t = true
      · rw [if_pos c2] at z
        exact absurd z (flt_no B 3 (by decide) (by decide) (hS a))
      · rw [if_neg c2]
        exact ⟨a, ⟨c, Bool.eq_false_iff.mpr c2⟩, rfl⟩
    · rw [if_neg c] at z
      exact absurd z (flt_no B 1 (by decide) (by decide) (hS a))
  · rw [nme, if_neg a] at z; exact absurd z a
theorem stp_al (z : (stp S).1 = 0) : S.1 = 0 ∧ stp S = (0, S.2 + 1) := by
  by_cases a : S.1 = 0
  · exact ⟨a, by rw [stp, if_pos a]⟩
  · rw [stp, if_neg a] at z; exact absurd z a
end PAL
/-- what is known while a river is read: told once, names, the river, where laws begin, codes, which laws are timed -/
abbrev LD : Type := Nat × (Nat → Nat) × rT × (Nat → Nat) × Nat × (Nat → Int32) × Int32
def DL (x ρ n : Nat) (s : Nat → Int32) (bg : Nat → Nat) (h : am_H) (D : LD) : Prop := hI h (x + 17) 7 = nI D.1 ∧ D.1 < 32 ∧ (∀ j, j < tN D.2.2.1 → hJ h (x + 18) j = kyT s n (bg (D.2.1 j))) ∧ RvP ρ h D.2.2.1 D.2.2.2.1 ∧ (hI h (x + 17) 4 = nI D.2.2.2.2.1 ∧ hI h (x + 19) = D.2.2.2.2.2.1 ∧ hI h ρ 14 = D.2.2.2.2.2.2) ∧ tN D.2.2.1 ≤ 16 ∧ chs (tKd D.2.2.1) (tN D.2.2.1) ≤ 8 ∧ tLaws D.2.2.1 ≤ 4
theorem RvP.sm {ρ : Nat} {h h1 : am_H} {t : rT} {st : Nat → Nat} (R : RvP ρ h t st) (e : ∀ a, ρ ≤ a → a ≤ ρ + 11 → same h h1 a) : RvP ρ h1 t st := by
  obtain ⟨a1, ⟨l, a2⟩, a3, a4, a5, a6, a7, a8, a9⟩ := R
  refine ⟨a1.sm (M := 11) (by decide) e, ⟨l, a2.sm (fun a h1 h2 => e a (by omega) (by omega))⟩, ?_, ?_, ?_, ?_, ?_, ?_, ?_⟩
  · rw [(e (ρ + 3) (by omega) (by omega)).2.2.1]; exact a3
  · rw [(e (ρ + 7) (by omega) (by omega)).2.2.1, (e (ρ + 7) (by omega) (by omega)).2.1]; exact a4
  · rw [(e (ρ + 8) (by omega) (by omega)).2.2.1, (e (ρ + 8) (by omega) (by omega)).2.1]; exact a5
  · rw [(e (ρ + 9) (by omega) (by omega)).2.2.1, (e (ρ + 9) (by omega) (by omega)).2.1]; exact a6
  · rw [(e ρ (by omega) (by omega)).2.2.1]; exact a7
  · rw [(e (ρ + 10) (by omega) (by omega)).2.1]; exact a8
  · rw [(e (ρ + 10) (by omega) (by omega)).2.2.1]; exact a9
theorem DL.fn {x ρ n : Nat} {s : Nat → Int32} {bg : Nat → Nat} {h h1 : am_H} {D : LD} (A : DL x ρ n s bg h D) (hρ : x + 69 ≤ ρ) (F : FN x (tN D.2.2.1) h h1) : DL x ρ n s bg h1 D := by
  obtain ⟨a1, a2, a3, a4, ⟨a5, a6, a7⟩, a8⟩ := A
  obtain ⟨F1, F2, F3⟩ := F
  refine ⟨by rw [F2 7 (by decide) (by decide)]; exact a1, a2, fun j hj => by rw [F3 j hj]; exact a3 j hj, a4.sm (fun a g1 g2 => F1.same (show ¬ a = x + 17 by omega) (by omega)), ⟨by rw [F2 4 (by decide) (by decide)]; exact a5, ?_, ?_⟩, a8⟩
  · rw [F1.I (show ¬ x + 19 = x + 17 by omega)]; exact a6
  · rw [F1.I (show ¬ ρ = x + 17 by omega)]; exact a7
theorem FN.J {x ρ t : Nat} {h h1 : am_H} (F : FN x t h h1) : FrJ (ZP x ρ) (x + 18) h h1 := by
  obtain ⟨a1, a2, a3, a4, a5, a6, a7⟩ := F.1
  exact ⟨a1, a2, a3, a4, a5, fun a ha => a6 a (fun e => ha (Or.inl e)), a7⟩
theorem FN.tr {x t : Nat} {h h1 h2 : am_H} (F : FN x t h h1) (G : FN x t h1 h2) : FN x t h h2 := ⟨F.1.tr G.1, fun k a b => (G.2.1 k a b).trans (F.2.1 k a b), fun j hj => (G.2.2 j hj).trans (F.2.2 j hj)⟩
